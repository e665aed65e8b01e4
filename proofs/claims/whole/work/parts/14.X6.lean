noncomputable def m_X6_in (x1 : Int64) (x2 : Int64) (x3 : Int64) : Option (Int32) :=
  (if (lg_cmp x1 x2) < 0 then some (0 : Int32) else (if 0 < (lg_cmp x1 x3) then some (0 : Int32) else some (1 : Int32)))
set_option maxHeartbeats 4000000 in
set_option maxRecDepth 100000 in
theorem c_X6_in (l : Launch) (D : va_G) (q : Nat → ClassId) (x1 : Int64) (x2 : Int64) (x3 : Int64) (res : Int32) (hm : m_X6_in x1 x2 x3 = some res) : Met l yX6_in (mw yX6_in cX6_in 6 (some .boolean)) ({ frames := 0, cells := 0, slots := 0, locals := 0 } : Room) (pcR D q ([]) [.long x1, .long x2, .long x3]) (vp_Si (fun x => x = res)) 0 0 (fun _ => False) := by
  refine Met.ofW (cc := cX6_in) (maxL := 6) (ret := (some .boolean)) (by decide) rfl ?_
  intro p e s m args below meth c s₁ B hml hv
  obtain ⟨rfl, hP0, hK⟩ := hv
  have hx := B.exec
  have hb := B.bytes
  have hr := B.returns
  have hW := mw_ws (atoms_spec (ws := mw yX6_in cX6_in 6 (some .boolean)) B.pre)
  have hown : s.vm.findClass RX6 = some m.cls := findClass_of_methodNamed B.named
  have hlocks := B.notSynchronized
  have X : Cx p s m [.long x1, .long x2, .long x3].toArray c cX6_in 6 RX6 D q := ⟨hx, hb, hml, hown, hW, hK⟩
  have hl0 := lv_entry ([.long x1, .long x2, .long x3]) (n := 6) (Nat.le_of_ble_eq_true rfl)
  rw [lg_entry_eq]
  generalize (lg_sl ([.long x1, .long x2, .long x3]) ++ List.replicate (6 - (lg_sl ([.long x1, .long x2, .long x3])).length) Slot.unset).toArray = ls0 at hl0 ⊢
  have hl0 : lv_has ls0 6 [(0, .long x1), (2, .long x2), (4, .long x3)] := hl0
  unfold m_X6_in at hm
  refine lv_lload_n hx hb dX6_in_0 rfl (lv_at hl0 0 rfl) ?_
  refine lv_lload_n hx hb dX6_in_1 rfl (lv_at hl0 1 rfl) ?_
  refine W.lcmp hx hb dX6_in_2 ?_
  refine lv_if_lt (tgt := 17) hx hb dX6_in_3 (by decide) (fun c3 => ?_) (fun c3 => ?_)
  · replace hm := tp hm c3
    refine lv_iconst (v := (0 : Int32)) hx hb dX6_in_17 (by decide) ?_
    exact eRz  X hr hlocks rfl hm dX6_in_18
  · replace hm := tn hm c3
    refine lv_lload_n hx hb dX6_in_6 rfl (lv_at hl0 0 rfl) ?_
    refine lv_lload hx hb dX6_in_7 (lv_at hl0 2 rfl) ?_
    refine W.lcmp hx hb dX6_in_9 ?_
    refine lv_if_gt (tgt := 17) hx hb dX6_in_10 (by decide) (fun c10 => ?_) (fun c10 => ?_)
    · replace hm := tp hm c10
      refine lv_iconst (v := (0 : Int32)) hx hb dX6_in_17 (by decide) ?_
      exact eRz  X hr hlocks rfl hm dX6_in_18
    · replace hm := tn hm c10
      refine lv_iconst (v := (1 : Int32)) hx hb dX6_in_13 (by decide) ?_
      refine lv_goto (tgt := 18) hx hb dX6_in_14 (by decide) ?_
      exact eRz  X hr hlocks rfl hm dX6_in_18
noncomputable def m_X6_feed (v : SV) (x1 : Int32) : Option (Int32 × SV) :=
  (m_X6_in (x1.toInt64) (0 : Int64) (127 : Int64)).bind (fun y6 => (if y6 = 0 then some ((-1 : Int32), v) else (if (v 0 19) = (160 : Int32) then some ((-3 : Int32), v) else ck (inB (v 0 19) 160) (lett (up2 v 18 (((v 0 19)).toNatClampNeg) x1) (fun v2_ => lett (up2 v2_ 0 19 ((v2_ 0 19) + (1 : Int32))) (fun v3_ => some ((v3_ 0 19), v3_)))))))
set_option maxHeartbeats 4000000 in
set_option maxRecDepth 100000 in
theorem c_X6_feed (l : Launch) (D : va_G) (q : Nat → ClassId) (sz : Nat) (a : Nat → Nat) (v : SV) (x1 : Int32) (res : Int32 × SV) (hm : m_X6_feed v x1 = some res) : Met l yX6_feed (mw yX6_feed cX6_feed 2 (some .int)) ({ frames := 1, cells := 0, slots := 0, locals := 25 } : Room) (pcW D q (wX6 q a v) sz [.ref (a 99), .int x1]) (va_Qi (fun r w => r = res.1 ∧ w = res.2) (bW D q (wX6 q a v) sz (fun (uu : SV) => wX6 q a uu)) (va_A (wX6 q a v) sz)) 0 0 (va_A (wX6 q a v) sz) := by
  refine Met.ofW (cc := cX6_feed) (maxL := 2) (ret := (some .int)) (by decide) rfl ?_
  intro p e s m args below meth c s₁ B hml hv
  obtain ⟨rfl, hsz, hP0, hK, hD0⟩ := hv
  have hx := B.exec
  have hb := B.bytes
  have hr := B.returns
  have hW := mw_ws (atoms_spec (ws := mw yX6_feed cX6_feed 2 (some .int)) B.pre)
  have hown : s.vm.findClass RX6 = some m.cls := findClass_of_methodNamed B.named
  have hlocks := B.notSynchronized
  have X : Cx p s m [.ref (a 99), .int x1].toArray c cX6_feed 2 RX6 D q := ⟨hx, hb, hml, hown, hW, hK⟩
  subst hsz
  replace hD0 := hD0.self (sz := s.heap.size)
  have hS0 : va_S (va_A (wX6 q a v) s.heap.size) s.heap s.heap [] := va_S.rf
  have hl0 := lv_entry ([.ref (a 99), .int x1]) (n := 2) (Nat.le_of_ble_eq_true rfl)
  rw [lg_entry_eq]
  generalize (lg_sl ([.ref (a 99), .int x1]) ++ List.replicate (2 - (lg_sl ([.ref (a 99), .int x1])).length) Slot.unset).toArray = ls0 at hl0 ⊢
  have hl0 : lv_has ls0 2 [(0, .ref (a 99)), (1, .int x1)] := hl0
  unfold m_X6_feed at hm
  refine lv_iload_n hx hb dX6_feed_0 rfl (lv_at hl0 1 rfl) ?_
  refine lv_i2l hx hb dX6_feed_1 rfl ?_
  refine lv_lconst (v := (0 : Int64)) hx hb dX6_feed_2 (by decide) ?_
  refine lv_ldc2 (v := (127 : Int64)) hx hb hown (hW _ k_992) dX6_feed_3 ?_
  obtain ⟨y6, hy6, hm⟩ := bn hm
  refine cSRi (As := [.long (x1.toInt64), .long (0 : Int64), .long (127 : Int64)]) (rest := []) X hP0 hl0.1 (c_X6_in l D q (x1.toInt64) (0 : Int64) (127 : Int64) y6 hy6) [] rfl k_993 mX6_in ⟨rfl, rfl⟩ ⟨Nat.le_of_ble_eq_true rfl, Nat.le_of_ble_eq_true rfl⟩ rfl rfl (Nat.le_of_ble_eq_true rfl) dX6_feed_6 ⟨Nat.zero_le _, Nat.zero_le _⟩ ?_
  refine lv_if_ne (tgt := 14) hx hb dX6_feed_9 (by decide) (fun c9 => ?_) (fun c9 => ?_)
  · replace hm := tn hm c9
    refine lv_aload_n hx hb dX6_feed_14 rfl (lv_at hl0 0 rfl) ?_
    refine va_get (D := D) (ci := 6) (v := .int (v 0 19)) (C := RX6) (T := TX6) (N := 40) hx hb hW iX6 hown hK hP0 0 rfl rfl 19 (by decide) (hW _ k_886) (fun _ h => h) rfl dX6_feed_15 ?_
    refine lv_sipush (v := (160 : Int32)) hx hb dX6_feed_18 (by decide) ?_
    refine lv_icmp_ne (tgt := 27) hx hb dX6_feed_21 (by decide) (fun c21 => ?_) (fun c21 => ?_)
    · replace hm := tn hm c21
      refine lv_aload_n hx hb dX6_feed_27 rfl (lv_at hl0 0 rfl) ?_
      refine va_get (D := D) (ci := 6) (v := .ref (a 18)) (C := RX6) (T := TX6) (N := 40) hx hb hW iX6 hown hK hP0 0 rfl rfl 18 (by decide) (hW _ k_885) (fun _ h => h) rfl dX6_feed_28 ?_
      refine lv_aload_n hx hb dX6_feed_31 rfl (lv_at hl0 0 rfl) ?_
      refine va_get (D := D) (ci := 6) (v := .int (v 0 19)) (C := RX6) (T := TX6) (N := 40) hx hb hW iX6 hown hK hP0 0 rfl rfl 19 (by decide) (hW _ k_886) (fun _ h => h) rfl dX6_feed_32 ?_
      refine lv_iload_n hx hb dX6_feed_35 rfl (lv_at hl0 1 rfl) ?_
      obtain ⟨h1, hm⟩ := ckd hm
      refine va_iast (f := (v 18)) hx hb hK hP0 hD0 hS0 7 0 rfl rfl (inB_vp h1) dX6_feed_36 (fun H2 locs2 hP hD hS2 => ?_)
      obtain ⟨v2_, e2, hm⟩ := ltd hm
      have hP2 : va_P D cls (wX6 q a v2_) H2 := by rw [e2]; exact hP
      have hD2 : va_D (va_A (wX6 q a v) s.heap.size) (wX6 q a v2_) := by rw [e2]; exact hD
      clear hP hD hP0 hD0 hS0
      refine lv_aload_n hx hb dX6_feed_37 rfl (lv_at hl0 0 rfl) ?_
      refine lv_dup hx hb dX6_feed_38 rfl ?_
      refine va_get (D := D) (ci := 6) (v := .int (v2_ 0 19)) (C := RX6) (T := TX6) (N := 40) hx hb hW iX6 hown hK hP2 0 rfl rfl 19 (by decide) (hW _ k_886) (fun _ h => h) rfl dX6_feed_39 ?_
      refine lv_iconst (v := (1 : Int32)) hx hb dX6_feed_42 (by decide) ?_
      refine lv_iadd hx hb dX6_feed_43 ?_
      refine va_put (D := D) (ci := 6) (v := .int ((v2_ 0 19) + (1 : Int32))) (ty := .int) (C := RX6) (T := TX6) (N := 40) hx hb hW iX6 tyX6 tyX6_ok nmX6 hown hK hP2 hD2 hS2 0 rfl rfl 19 (by decide) (hW _ k_886) (fun _ h => h) rfl (by decide +kernel) rfl rfl (Nat.le_of_ble_eq_true rfl) dX6_feed_44 (fun H3 locs3 hP hD hS3 => ?_)
      obtain ⟨v3_, e3, hm⟩ := ltd hm
      have hP3 : va_P D cls (wX6 q a v3_) H3 := by rw [e3]; exact hP
      have hD3 : va_D (va_A (wX6 q a v) s.heap.size) (wX6 q a v3_) := by rw [e3]; exact hD
      clear hP hD hP2 hD2 hS2
      refine lv_aload_n hx hb dX6_feed_47 rfl (lv_at hl0 0 rfl) ?_
      refine va_get (D := D) (ci := 6) (v := .int (v3_ 0 19)) (C := RX6) (T := TX6) (N := 40) hx hb hW iX6 hown hK hP3 0 rfl rfl 19 (by decide) (hW _ k_886) (fun _ h => h) rfl dX6_feed_48 ?_
      exact eWi (Wf := fun (uu : SV) => wX6 q a uu) (u := v3_) X hr hlocks hP3 hD3 hS3 hm dX6_feed_51
    · replace hm := tp hm c21
      refine lv_bipush (v := (-3 : Int32)) hx hb dX6_feed_24 (by decide) ?_
      exact eWi (Wf := fun (uu : SV) => wX6 q a uu) (u := v) X hr hlocks hP0 hD0 hS0 hm dX6_feed_26
  · replace hm := tp hm c9
    refine lv_iconst (v := (-1 : Int32)) hx hb dX6_feed_12 (by decide) ?_
    exact eWi (Wf := fun (uu : SV) => wX6 q a uu) (u := v) X hr hlocks hP0 hD0 hS0 hm dX6_feed_13
noncomputable def m_X6_end (v : SV) (x1 : Int32) : Option (Int32 × SV) :=
  (m_X6_in (x1.toInt64) (0 : Int64) ((v 0 19).toInt64)).bind (fun y8 => (if y8 = 0 then some ((-1 : Int32), v) else lett (up2 v 0 19 x1) (fun v2_ => some ((v 0 19), v2_))))
set_option maxHeartbeats 4000000 in
set_option maxRecDepth 100000 in
theorem c_X6_end (l : Launch) (D : va_G) (q : Nat → ClassId) (sz : Nat) (a : Nat → Nat) (v : SV) (x1 : Int32) (res : Int32 × SV) (hm : m_X6_end v x1 = some res) : Met l yX6_end (mw yX6_end cX6_end 3 (some .int)) ({ frames := 1, cells := 0, slots := 0, locals := 25 } : Room) (pcW D q (wX6 q a v) sz [.ref (a 99), .int x1]) (va_Qi (fun r w => r = res.1 ∧ w = res.2) (bW D q (wX6 q a v) sz (fun (uu : SV) => wX6 q a uu)) (va_A (wX6 q a v) sz)) 0 0 (va_A (wX6 q a v) sz) := by
  refine Met.ofW (cc := cX6_end) (maxL := 3) (ret := (some .int)) (by decide) rfl ?_
  intro p e s m args below meth c s₁ B hml hv
  obtain ⟨rfl, hsz, hP0, hK, hD0⟩ := hv
  have hx := B.exec
  have hb := B.bytes
  have hr := B.returns
  have hW := mw_ws (atoms_spec (ws := mw yX6_end cX6_end 3 (some .int)) B.pre)
  have hown : s.vm.findClass RX6 = some m.cls := findClass_of_methodNamed B.named
  have hlocks := B.notSynchronized
  have X : Cx p s m [.ref (a 99), .int x1].toArray c cX6_end 3 RX6 D q := ⟨hx, hb, hml, hown, hW, hK⟩
  subst hsz
  replace hD0 := hD0.self (sz := s.heap.size)
  have hS0 : va_S (va_A (wX6 q a v) s.heap.size) s.heap s.heap [] := va_S.rf
  have hl0 := lv_entry ([.ref (a 99), .int x1]) (n := 3) (Nat.le_of_ble_eq_true rfl)
  rw [lg_entry_eq]
  generalize (lg_sl ([.ref (a 99), .int x1]) ++ List.replicate (3 - (lg_sl ([.ref (a 99), .int x1])).length) Slot.unset).toArray = ls0 at hl0 ⊢
  have hl0 : lv_has ls0 3 [(0, .ref (a 99)), (1, .int x1)] := hl0
  unfold m_X6_end at hm
  refine lv_iload_n hx hb dX6_end_0 rfl (lv_at hl0 1 rfl) ?_
  refine lv_i2l hx hb dX6_end_1 rfl ?_
  refine lv_lconst (v := (0 : Int64)) hx hb dX6_end_2 (by decide) ?_
  refine lv_aload_n hx hb dX6_end_3 rfl (lv_at hl0 0 rfl) ?_
  refine va_get (D := D) (ci := 6) (v := .int (v 0 19)) (C := RX6) (T := TX6) (N := 40) hx hb hW iX6 hown hK hP0 0 rfl rfl 19 (by decide) (hW _ k_886) (fun _ h => h) rfl dX6_end_4 ?_
  refine lv_i2l hx hb dX6_end_7 rfl ?_
  obtain ⟨y8, hy8, hm⟩ := bn hm
  refine cSRi (As := [.long (x1.toInt64), .long (0 : Int64), .long ((v 0 19).toInt64)]) (rest := []) X hP0 hl0.1 (c_X6_in l D q (x1.toInt64) (0 : Int64) ((v 0 19).toInt64) y8 hy8) [] rfl k_993 mX6_in ⟨rfl, rfl⟩ ⟨Nat.le_of_ble_eq_true rfl, Nat.le_of_ble_eq_true rfl⟩ rfl rfl (Nat.le_of_ble_eq_true rfl) dX6_end_8 ⟨Nat.zero_le _, Nat.zero_le _⟩ ?_
  refine lv_if_ne (tgt := 16) hx hb dX6_end_11 (by decide) (fun c11 => ?_) (fun c11 => ?_)
  · replace hm := tn hm c11
    refine lv_aload_n hx hb dX6_end_16 rfl (lv_at hl0 0 rfl) ?_
    refine va_get (D := D) (ci := 6) (v := .int (v 0 19)) (C := RX6) (T := TX6) (N := 40) hx hb hW iX6 hown hK hP0 0 rfl rfl 19 (by decide) (hW _ k_886) (fun _ h => h) rfl dX6_end_17 ?_
    refine lv_istore_n (lv' := [(2, .int (v 0 19)), (0, .ref (a 99)), (1, .int x1)]) hx hb dX6_end_20 rfl hl0 (by decide) rfl (fun ls1 hl1 => ?_)
    clear hl0
    refine lv_aload_n hx hb dX6_end_21 rfl (lv_at hl1 1 rfl) ?_
    refine lv_iload_n hx hb dX6_end_22 rfl (lv_at hl1 2 rfl) ?_
    refine va_put (D := D) (ci := 6) (v := .int x1) (ty := .int) (C := RX6) (T := TX6) (N := 40) hx hb hW iX6 tyX6 tyX6_ok nmX6 hown hK hP0 hD0 hS0 0 rfl rfl 19 (by decide) (hW _ k_886) (fun _ h => h) rfl (by decide +kernel) rfl rfl (Nat.le_of_ble_eq_true rfl) dX6_end_23 (fun H2 locs2 hP hD hS2 => ?_)
    obtain ⟨v2_, e2, hm⟩ := ltd hm
    have hP2 : va_P D cls (wX6 q a v2_) H2 := by rw [e2]; exact hP
    have hD2 : va_D (va_A (wX6 q a v) s.heap.size) (wX6 q a v2_) := by rw [e2]; exact hD
    clear hP hD hP0 hD0 hS0
    refine lv_iload_n hx hb dX6_end_26 rfl (lv_at hl1 0 rfl) ?_
    exact eWi (Wf := fun (uu : SV) => wX6 q a uu) (u := v2_) X hr hlocks hP2 hD2 hS2 hm dX6_end_27
  · replace hm := tp hm c11
    refine lv_iconst (v := (-1 : Int32)) hx hb dX6_end_14 (by decide) ?_
    exact eWi (Wf := fun (uu : SV) => wX6 q a uu) (u := v) X hr hlocks hP0 hD0 hS0 hm dX6_end_15
noncomputable def m_X6_byteAt (v : SV) (x1 : Int32) : Option (Int32) :=
  (if (v 0 19) ≤ x1 then some (-4 : Int32) else ck (inB x1 160) (some (v 18 ((x1).toNatClampNeg))))
set_option maxHeartbeats 4000000 in
set_option maxRecDepth 100000 in
theorem c_X6_byteAt (l : Launch) (D : va_G) (q : Nat → ClassId) (a : Nat → Nat) (v : SV) (x1 : Int32) (res : Int32) (hm : m_X6_byteAt v x1 = some res) : Met l yX6_byteAt (mw yX6_byteAt cX6_byteAt 2 (some .int)) ({ frames := 0, cells := 0, slots := 0, locals := 0 } : Room) (pcR D q (wX6 q a v) [.ref (a 99), .int x1]) (vp_Si (fun x => x = res)) 0 0 (fun _ => False) := by
  refine Met.ofW (cc := cX6_byteAt) (maxL := 2) (ret := (some .int)) (by decide) rfl ?_
  intro p e s m args below meth c s₁ B hml hv
  obtain ⟨rfl, hP0, hK⟩ := hv
  have hx := B.exec
  have hb := B.bytes
  have hr := B.returns
  have hW := mw_ws (atoms_spec (ws := mw yX6_byteAt cX6_byteAt 2 (some .int)) B.pre)
  have hown : s.vm.findClass RX6 = some m.cls := findClass_of_methodNamed B.named
  have hlocks := B.notSynchronized
  have X : Cx p s m [.ref (a 99), .int x1].toArray c cX6_byteAt 2 RX6 D q := ⟨hx, hb, hml, hown, hW, hK⟩
  have hl0 := lv_entry ([.ref (a 99), .int x1]) (n := 2) (Nat.le_of_ble_eq_true rfl)
  rw [lg_entry_eq]
  generalize (lg_sl ([.ref (a 99), .int x1]) ++ List.replicate (2 - (lg_sl ([.ref (a 99), .int x1])).length) Slot.unset).toArray = ls0 at hl0 ⊢
  have hl0 : lv_has ls0 2 [(0, .ref (a 99)), (1, .int x1)] := hl0
  unfold m_X6_byteAt at hm
  refine lv_iload_n hx hb dX6_byteAt_0 rfl (lv_at hl0 1 rfl) ?_
  refine lv_aload_n hx hb dX6_byteAt_1 rfl (lv_at hl0 0 rfl) ?_
  refine va_get (D := D) (ci := 6) (v := .int (v 0 19)) (C := RX6) (T := TX6) (N := 40) hx hb hW iX6 hown hK hP0 0 rfl rfl 19 (by decide) (hW _ k_886) (fun _ h => h) rfl dX6_byteAt_2 ?_
  refine lv_icmp_ge (tgt := 17) hx hb dX6_byteAt_5 (by decide) (fun c5 => ?_) (fun c5 => ?_)
  · replace hm := tp hm c5
    refine lv_bipush (v := (-4 : Int32)) hx hb dX6_byteAt_17 (by decide) ?_
    exact eRi  X hr hlocks hm dX6_byteAt_19
  · replace hm := tn hm c5
    refine lv_aload_n hx hb dX6_byteAt_8 rfl (lv_at hl0 0 rfl) ?_
    refine va_get (D := D) (ci := 6) (v := .ref (a 18)) (C := RX6) (T := TX6) (N := 40) hx hb hW iX6 hown hK hP0 0 rfl rfl 18 (by decide) (hW _ k_885) (fun _ h => h) rfl dX6_byteAt_9 ?_
    refine lv_iload_n hx hb dX6_byteAt_12 rfl (lv_at hl0 1 rfl) ?_
    obtain ⟨h1, hm⟩ := ckd hm
    refine va_iald (f := (v 18)) hx hb hK hP0 7 0 rfl rfl (inB_vp h1) dX6_byteAt_13 ?_
    refine lv_goto (tgt := 19) hx hb dX6_byteAt_14 (by decide) ?_
    exact eRi  X hr hlocks hm dX6_byteAt_19
noncomputable def m_X6_fails (v : SV) (x1 : Int32) : Option (SV) :=
  (if (v 0 21) = 0 then lett (up2 v 0 21 x1) (fun v1_ => lett (up2 v1_ 0 22 (v1_ 0 24)) (fun v2_ => some v2_)) else some v)
set_option maxHeartbeats 4000000 in
set_option maxRecDepth 100000 in
theorem c_X6_fails (l : Launch) (D : va_G) (q : Nat → ClassId) (sz : Nat) (a : Nat → Nat) (v : SV) (x1 : Int32) (res : SV) (hm : m_X6_fails v x1 = some res) : Met l yX6_fails (mw yX6_fails cX6_fails 2 none) ({ frames := 0, cells := 0, slots := 0, locals := 0 } : Room) (pcW D q (wX6 q a v) sz [.ref (a 99), .int x1]) (va_Qv (fun w => w = res) (bW D q (wX6 q a v) sz (fun (uu : SV) => wX6 q a uu)) (va_A (wX6 q a v) sz)) 0 0 (va_A (wX6 q a v) sz) := by
  refine Met.ofW (cc := cX6_fails) (maxL := 2) (ret := none) (by decide) rfl ?_
  intro p e s m args below meth c s₁ B hml hv
  obtain ⟨rfl, hsz, hP0, hK, hD0⟩ := hv
  have hx := B.exec
  have hb := B.bytes
  have hr := B.returns
  have hW := mw_ws (atoms_spec (ws := mw yX6_fails cX6_fails 2 none) B.pre)
  have hown : s.vm.findClass RX6 = some m.cls := findClass_of_methodNamed B.named
  have hlocks := B.notSynchronized
  have X : Cx p s m [.ref (a 99), .int x1].toArray c cX6_fails 2 RX6 D q := ⟨hx, hb, hml, hown, hW, hK⟩
  subst hsz
  replace hD0 := hD0.self (sz := s.heap.size)
  have hS0 : va_S (va_A (wX6 q a v) s.heap.size) s.heap s.heap [] := va_S.rf
  have hl0 := lv_entry ([.ref (a 99), .int x1]) (n := 2) (Nat.le_of_ble_eq_true rfl)
  rw [lg_entry_eq]
  generalize (lg_sl ([.ref (a 99), .int x1]) ++ List.replicate (2 - (lg_sl ([.ref (a 99), .int x1])).length) Slot.unset).toArray = ls0 at hl0 ⊢
  have hl0 : lv_has ls0 2 [(0, .ref (a 99)), (1, .int x1)] := hl0
  unfold m_X6_fails at hm
  refine lv_aload_n hx hb dX6_fails_0 rfl (lv_at hl0 0 rfl) ?_
  refine va_get (D := D) (ci := 6) (v := .int (v 0 21)) (C := RX6) (T := TX6) (N := 40) hx hb hW iX6 hown hK hP0 0 rfl rfl 21 (by decide) (hW _ k_888) (fun _ h => h) rfl dX6_fails_1 ?_
  refine lv_if_ne (tgt := 20) hx hb dX6_fails_4 (by decide) (fun c4 => ?_) (fun c4 => ?_)
  · replace hm := tn hm c4
    exact eWv (Wf := fun (uu : SV) => wX6 q a uu) (u := v) X hr hlocks hP0 hD0 hS0 hm dX6_fails_20
  · replace hm := tp hm c4
    refine lv_aload_n hx hb dX6_fails_7 rfl (lv_at hl0 0 rfl) ?_
    refine lv_iload_n hx hb dX6_fails_8 rfl (lv_at hl0 1 rfl) ?_
    refine va_put (D := D) (ci := 6) (v := .int x1) (ty := .int) (C := RX6) (T := TX6) (N := 40) hx hb hW iX6 tyX6 tyX6_ok nmX6 hown hK hP0 hD0 hS0 0 rfl rfl 21 (by decide) (hW _ k_888) (fun _ h => h) rfl (by decide +kernel) rfl rfl (Nat.le_of_ble_eq_true rfl) dX6_fails_9 (fun H1 locs1 hP hD hS1 => ?_)
    obtain ⟨v1_, e1, hm⟩ := ltd hm
    have hP1 : va_P D cls (wX6 q a v1_) H1 := by rw [e1]; exact hP
    have hD1 : va_D (va_A (wX6 q a v) s.heap.size) (wX6 q a v1_) := by rw [e1]; exact hD
    clear hP hD hP0 hD0 hS0
    refine lv_aload_n hx hb dX6_fails_12 rfl (lv_at hl0 0 rfl) ?_
    refine lv_aload_n hx hb dX6_fails_13 rfl (lv_at hl0 0 rfl) ?_
    refine va_get (D := D) (ci := 6) (v := .int (v1_ 0 24)) (C := RX6) (T := TX6) (N := 40) hx hb hW iX6 hown hK hP1 0 rfl rfl 24 (by decide) (hW _ k_891) (fun _ h => h) rfl dX6_fails_14 ?_
    refine va_put (D := D) (ci := 6) (v := .int (v1_ 0 24)) (ty := .int) (C := RX6) (T := TX6) (N := 40) hx hb hW iX6 tyX6 tyX6_ok nmX6 hown hK hP1 hD1 hS1 0 rfl rfl 22 (by decide) (hW _ k_889) (fun _ h => h) rfl (by decide +kernel) rfl rfl (Nat.le_of_ble_eq_true rfl) dX6_fails_17 (fun H2 locs2 hP hD hS2 => ?_)
    obtain ⟨v2_, e2, hm⟩ := ltd hm
    have hP2 : va_P D cls (wX6 q a v2_) H2 := by rw [e2]; exact hP
    have hD2 : va_D (va_A (wX6 q a v) s.heap.size) (wX6 q a v2_) := by rw [e2]; exact hD
    clear hP hD hP1 hD1 hS1
    exact eWv (Wf := fun (uu : SV) => wX6 q a uu) (u := v2_) X hr hlocks hP2 hD2 hS2 hm dX6_fails_20
noncomputable def m_X6_nameHere_K2 (z2 : Int32) : Option (Int32) :=
  some (-4 : Int32)
noncomputable def m_X6_nameHere_K51 (z2 : Int32) (z51 : Int32 × Int32) : Option ((Int32) ⊕ ((Int32) ⊕ (Int32))) :=
  (if z51.1 = 0 then some (.inl (z2 + (1 : Int32))) else some (.inr (.inr z2)))
noncomputable def m_X6_nameHere_L51 (v : SV) (z2 : Int32) (z51 : Int32 × Int32) : Option ((Int32 × Int32) ⊕ (Int32 × Int32)) :=
  (if z51.1 = 0 then some (.inr (z51.1, z51.2)) else (if ((v 0 23) - (v 0 24)) ≤ z51.2 then some (.inr (z51.1, z51.2)) else (m_X6_byteAt v ((v 0 24) + z51.2)).bind (fun y75 => ck (inB z2 10) (ck (inB ((v 27 ((z2).toNatClampNeg)) + z51.2) 48) ((if y75 = (v 28 ((((v 27 ((z2).toNatClampNeg)) + z51.2)).toNatClampNeg)) then some (.inl ((1 : Int32), (z51.2 + (1 : Int32)))) else some (.inl ((0 : Int32), (z51.2 + (1 : Int32))))))))))
noncomputable def m_X6_nameHere_J48 (v : SV) (z2 : Int32) (z48 : Int32) : Option ((Int32) ⊕ ((Int32) ⊕ (Int32))) :=
  (lpC (m_X6_nameHere_L51 v z2) (z48, (0 : Int32))).bind (m_X6_nameHere_K51 z2)
noncomputable def m_X6_nameHere_L2 (v : SV) (z2 : Int32) : Option ((Int32) ⊕ ((Int32) ⊕ (Int32))) :=
  (if (9 : Int32) ≤ z2 then some (.inr (.inl z2)) else (if (v 0 25) = (1 : Int32) then ck (inB (z2 + (1 : Int32)) 10) (ck (inB z2 10) ((if ((v 0 23) - (v 0 24)) = ((v 27 (((z2 + (1 : Int32))).toNatClampNeg)) - (v 27 ((z2).toNatClampNeg))) then m_X6_nameHere_J48 v z2 (1 : Int32) else m_X6_nameHere_J48 v z2 (0 : Int32)))) else some (.inr (.inl z2))))
noncomputable def m_X6_nameHere (v : SV) : Option (Int32) :=
  (lpC (m_X6_nameHere_L2 v) (0 : Int32)).bind (Sum.elim (m_X6_nameHere_K2) (fun y => some y))
set_option maxHeartbeats 4000000 in
set_option maxRecDepth 100000 in
theorem c_X6_nameHere (l : Launch) (D : va_G) (q : Nat → ClassId) (a : Nat → Nat) (v : SV) (res : Int32) (hm : m_X6_nameHere v = some res) : Met l yX6_nameHere (mw yX6_nameHere cX6_nameHere 4 (some .int)) ({ frames := 1, cells := 0, slots := 0, locals := 21 } : Room) (pcR D q (wX6 q a v) [.ref (a 99)]) (vp_Si (fun x => x = res)) 0 0 (fun _ => False) := by
  refine Met.ofW (cc := cX6_nameHere) (maxL := 4) (ret := (some .int)) (by decide) rfl ?_
  intro p e s m args below meth c s₁ B hml hv
  obtain ⟨rfl, hP0, hK⟩ := hv
  have hx := B.exec
  have hb := B.bytes
  have hr := B.returns
  have hW := mw_ws (atoms_spec (ws := mw yX6_nameHere cX6_nameHere 4 (some .int)) B.pre)
  have hown : s.vm.findClass RX6 = some m.cls := findClass_of_methodNamed B.named
  have hlocks := B.notSynchronized
  have X : Cx p s m [.ref (a 99)].toArray c cX6_nameHere 4 RX6 D q := ⟨hx, hb, hml, hown, hW, hK⟩
  have hl0 := lv_entry ([.ref (a 99)]) (n := 4) (Nat.le_of_ble_eq_true rfl)
  rw [lg_entry_eq]
  generalize (lg_sl ([.ref (a 99)]) ++ List.replicate (4 - (lg_sl ([.ref (a 99)])).length) Slot.unset).toArray = ls0 at hl0 ⊢
  have hl0 : lv_has ls0 4 [(0, .ref (a 99))] := hl0
  unfold m_X6_nameHere at hm
  refine lv_iconst (v := (0 : Int32)) hx hb dX6_nameHere_0 (by decide) ?_
  refine lv_istore_n (lv' := [(1, .int (0 : Int32)), (0, .ref (a 99))]) hx hb dX6_nameHere_1 rfl hl0 (by decide) rfl (fun ls1 hl1 => ?_)
  clear hl0
  obtain ⟨r2, hr2, hm⟩ := bn hm
  obtain ⟨n2, hn2⟩ := lpC_ex hr2
  have hE2 : ∀ z2 : Int32, m_X6_nameHere_K2 z2 = some res → ∀ ls : Array Slot, lv_has ls 4 [] → W p l e ((headSpec (mw yX6_nameHere cX6_nameHere 4 (some .int)) ({ frames := 1, cells := 0, slots := 0, locals := 21 } : Room)).room) s m [.ref (a 99)].toArray below meth c s.heap [] 0 0 (MQ below (vp_Si (fun x => x = res)) [.ref (a 99)].toArray s 0 0 (fun _ => False)) (F0 m 118 ls []) := by
    intro z2 hm ls3 hl3
    unfold m_X6_nameHere_K2 at hm
    refine lv_bipush (v := (-4 : Int32)) hx hb dX6_nameHere_118 (by decide) ?_
    exact eRi  X hr hlocks hm dX6_nameHere_120
  have hL2 : ∀ (n : Nat) (z2 : Int32) (ρ2 : (Int32) ⊕ (Int32)), lpO (m_X6_nameHere_L2 v) n z2 = some ρ2 → (Sum.elim (m_X6_nameHere_K2) (fun y => some y)) ρ2 = some res → ∀ ls : Array Slot, lv_has ls 4 [(0, .ref (a 99)), (1, .int z2)] → W p l e ((headSpec (mw yX6_nameHere cX6_nameHere 4 (some .int)) ({ frames := 1, cells := 0, slots := 0, locals := 21 } : Room)).room) s m [.ref (a 99)].toArray below meth c s.heap [] 0 0 (MQ below (vp_Si (fun x => x = res)) [.ref (a 99)].toArray s 0 0 (fun _ => False)) (F0 m 2 ls []) := by
    intro n
    induction n with
    | zero => intro _ _ h; cases h
    | succ n ih2 =>
      intro z2 ρ2 hz2 hK2 ls2 hl2
      obtain ⟨t2, hm, hz2⟩ := bn hz2
      unfold m_X6_nameHere_L2 at hm
      refine lv_iload_n hx hb dX6_nameHere_2 rfl (lv_at hl2 1 rfl) ?_
      refine lv_bipush (v := (9 : Int32)) hx hb dX6_nameHere_3 (by decide) ?_
      refine lv_icmp_ge (tgt := 118) hx hb dX6_nameHere_5 (by decide) (fun c5 => ?_) (fun c5 => ?_)
      · replace hm := tp hm c5
        cases hm
        cases hz2
        exact hE2 z2 hK2 _ (lv_sub hl2 [] rfl)
      · replace hm := tn hm c5
        refine lv_aload_n hx hb dX6_nameHere_8 rfl (lv_at hl2 0 rfl) ?_
        refine va_get (D := D) (ci := 6) (v := .int (v 0 25)) (C := RX6) (T := TX6) (N := 40) hx hb hW iX6 hown hK hP0 0 rfl rfl 25 (by decide) (hW _ k_892) (fun _ h => h) rfl dX6_nameHere_9 ?_
        refine lv_iconst (v := (1 : Int32)) hx hb dX6_nameHere_12 (by decide) ?_
        refine lv_icmp_ne (tgt := 118) hx hb dX6_nameHere_13 (by decide) (fun c13 => ?_) (fun c13 => ?_)
        · replace hm := tn hm c13
          cases hm
          cases hz2
          exact hE2 z2 hK2 _ (lv_sub hl2 [] rfl)
        · replace hm := tp hm c13
          refine lv_aload_n hx hb dX6_nameHere_16 rfl (lv_at hl2 0 rfl) ?_
          refine va_get (D := D) (ci := 6) (v := .int (v 0 23)) (C := RX6) (T := TX6) (N := 40) hx hb hW iX6 hown hK hP0 0 rfl rfl 23 (by decide) (hW _ k_890) (fun _ h => h) rfl dX6_nameHere_17 ?_
          refine lv_aload_n hx hb dX6_nameHere_20 rfl (lv_at hl2 0 rfl) ?_
          refine va_get (D := D) (ci := 6) (v := .int (v 0 24)) (C := RX6) (T := TX6) (N := 40) hx hb hW iX6 hown hK hP0 0 rfl rfl 24 (by decide) (hW _ k_891) (fun _ h => h) rfl dX6_nameHere_21 ?_
          refine lv_isub hx hb dX6_nameHere_24 ?_
          refine lv_aload_n hx hb dX6_nameHere_25 rfl (lv_at hl2 0 rfl) ?_
          refine va_get (D := D) (ci := 6) (v := .ref (a 27)) (C := RX6) (T := TX6) (N := 40) hx hb hW iX6 hown hK hP0 0 rfl rfl 27 (by decide) (hW _ k_894) (fun _ h => h) rfl dX6_nameHere_26 ?_
          refine lv_iload_n hx hb dX6_nameHere_29 rfl (lv_at hl2 1 rfl) ?_
          refine lv_iconst (v := (1 : Int32)) hx hb dX6_nameHere_30 (by decide) ?_
          refine lv_iadd hx hb dX6_nameHere_31 ?_
          obtain ⟨h4, hm⟩ := ckd hm
          refine va_iald (f := (v 27)) hx hb hK hP0 8 0 rfl rfl (inB_vp h4) dX6_nameHere_32 ?_
          refine lv_aload_n hx hb dX6_nameHere_33 rfl (lv_at hl2 0 rfl) ?_
          refine va_get (D := D) (ci := 6) (v := .ref (a 27)) (C := RX6) (T := TX6) (N := 40) hx hb hW iX6 hown hK hP0 0 rfl rfl 27 (by decide) (hW _ k_894) (fun _ h => h) rfl dX6_nameHere_34 ?_
          refine lv_iload_n hx hb dX6_nameHere_37 rfl (lv_at hl2 1 rfl) ?_
          obtain ⟨h5, hm⟩ := ckd hm
          refine va_iald (f := (v 27)) hx hb hK hP0 8 0 rfl rfl (inB_vp h5) dX6_nameHere_38 ?_
          refine lv_isub hx hb dX6_nameHere_39 ?_
          have hJ48 : ∀ z48 : Int32, m_X6_nameHere_J48 v z2 z48 = some t2 → ∀ ls : Array Slot, lv_has ls 4 [(0, .ref (a 99)), (1, .int z2)] → W p l e ((headSpec (mw yX6_nameHere cX6_nameHere 4 (some .int)) ({ frames := 1, cells := 0, slots := 0, locals := 21 } : Room)).room) s m [.ref (a 99)].toArray below meth c s.heap [] 0 0 (MQ below (vp_Si (fun x => x = res)) [.ref (a 99)].toArray s 0 0 (fun _ => False)) (F0 m 48 ls [.int z48]) := by
            intro z48 hm ls6 hl6
            unfold m_X6_nameHere_J48 at hm
            refine lv_istore_n (lv' := [(2, .int z48), (0, .ref (a 99)), (1, .int z2)]) hx hb dX6_nameHere_48 rfl hl6 (by decide) rfl (fun ls7 hl7 => ?_)
            clear hl6
            refine lv_iconst (v := (0 : Int32)) hx hb dX6_nameHere_49 (by decide) ?_
            refine lv_istore_n (lv' := [(3, .int (0 : Int32)), (2, .int z48), (0, .ref (a 99)), (1, .int z2)]) hx hb dX6_nameHere_50 rfl hl7 (by decide) rfl (fun ls8 hl8 => ?_)
            clear hl7
            obtain ⟨r51, hr51, hm⟩ := bn hm
            obtain ⟨n51, hn51⟩ := lpC_ex hr51
            have hE51 : ∀ z51 : Int32 × Int32, m_X6_nameHere_K51 z2 z51 = some t2 → ∀ ls : Array Slot, lv_has ls 4 [(0, .ref (a 99)), (1, .int z2), (2, .int z51.1)] → W p l e ((headSpec (mw yX6_nameHere cX6_nameHere 4 (some .int)) ({ frames := 1, cells := 0, slots := 0, locals := 21 } : Room)).room) s m [.ref (a 99)].toArray below meth c s.heap [] 0 0 (MQ below (vp_Si (fun x => x = res)) [.ref (a 99)].toArray s 0 0 (fun _ => False)) (F0 m 106 ls []) := by
              intro z51 hm ls10 hl10
              unfold m_X6_nameHere_K51 at hm
              refine lv_iload_n hx hb dX6_nameHere_106 rfl (lv_at hl10 2 rfl) ?_
              refine lv_if_eq (tgt := 112) hx hb dX6_nameHere_107 (by decide) (fun c107 => ?_) (fun c107 => ?_)
              · replace hm := tp hm c107
                refine lv_iinc (v := (z2 + (1 : Int32))) (lv' := [(1, .int (z2 + (1 : Int32))), (0, .ref (a 99)), (2, .int z51.1)]) hx hb dX6_nameHere_112 hl10 (k := 1) rfl rfl (by decide) rfl (fun ls11 hl11 => ?_)
                clear hl10
                refine lv_goto (tgt := 2) hx hb dX6_nameHere_115 (by decide) ?_
                cases hm
                exact ih2 (z2 + (1 : Int32)) ρ2 hz2 hK2 _ (lv_sub hl11 [1, 0] rfl)
              · replace hm := tn hm c107
                refine lv_iload_n hx hb dX6_nameHere_110 rfl (lv_at hl10 1 rfl) ?_
                cases hm
                cases hz2
                have hm : (some z2 : Option (Int32)) = some res := hK2
                exact eRi  X hr hlocks hm dX6_nameHere_111
            have hL51 : ∀ (n : Nat) (z51 : Int32 × Int32) (ρ51 : Int32 × Int32), lpO (m_X6_nameHere_L51 v z2) n z51 = some ρ51 → (m_X6_nameHere_K51 z2) ρ51 = some t2 → ∀ ls : Array Slot, lv_has ls 4 [(0, .ref (a 99)), (1, .int z2), (2, .int z51.1), (3, .int z51.2)] → W p l e ((headSpec (mw yX6_nameHere cX6_nameHere 4 (some .int)) ({ frames := 1, cells := 0, slots := 0, locals := 21 } : Room)).room) s m [.ref (a 99)].toArray below meth c s.heap [] 0 0 (MQ below (vp_Si (fun x => x = res)) [.ref (a 99)].toArray s 0 0 (fun _ => False)) (F0 m 51 ls []) := by
              intro n
              induction n with
              | zero => intro _ _ h; cases h
              | succ n ih51 =>
                intro z51 ρ51 hz51 hK51 ls9 hl9
                obtain ⟨t51, hm, hz51⟩ := bn hz51
                unfold m_X6_nameHere_L51 at hm
                refine lv_iload_n hx hb dX6_nameHere_51 rfl (lv_at hl9 2 rfl) ?_
                refine lv_if_eq (tgt := 106) hx hb dX6_nameHere_52 (by decide) (fun c52 => ?_) (fun c52 => ?_)
                · replace hm := tp hm c52
                  cases hm
                  cases hz51
                  exact hE51 (z51.1, z51.2) hK51 _ (lv_sub hl9 [0, 1, 2] rfl)
                · replace hm := tn hm c52
                  refine lv_iload_n hx hb dX6_nameHere_55 rfl (lv_at hl9 3 rfl) ?_
                  refine lv_aload_n hx hb dX6_nameHere_56 rfl (lv_at hl9 0 rfl) ?_
                  refine va_get (D := D) (ci := 6) (v := .int (v 0 23)) (C := RX6) (T := TX6) (N := 40) hx hb hW iX6 hown hK hP0 0 rfl rfl 23 (by decide) (hW _ k_890) (fun _ h => h) rfl dX6_nameHere_57 ?_
                  refine lv_aload_n hx hb dX6_nameHere_60 rfl (lv_at hl9 0 rfl) ?_
                  refine va_get (D := D) (ci := 6) (v := .int (v 0 24)) (C := RX6) (T := TX6) (N := 40) hx hb hW iX6 hown hK hP0 0 rfl rfl 24 (by decide) (hW _ k_891) (fun _ h => h) rfl dX6_nameHere_61 ?_
                  refine lv_isub hx hb dX6_nameHere_64 ?_
                  refine lv_icmp_ge (tgt := 106) hx hb dX6_nameHere_65 (by decide) (fun c65 => ?_) (fun c65 => ?_)
                  · replace hm := tp hm c65
                    cases hm
                    cases hz51
                    exact hE51 (z51.1, z51.2) hK51 _ (lv_sub hl9 [0, 1, 2] rfl)
                  · replace hm := tn hm c65
                    refine lv_aload_n hx hb dX6_nameHere_68 rfl (lv_at hl9 0 rfl) ?_
                    refine lv_aload_n hx hb dX6_nameHere_69 rfl (lv_at hl9 0 rfl) ?_
                    refine va_get (D := D) (ci := 6) (v := .int (v 0 24)) (C := RX6) (T := TX6) (N := 40) hx hb hW iX6 hown hK hP0 0 rfl rfl 24 (by decide) (hW _ k_891) (fun _ h => h) rfl dX6_nameHere_70 ?_
                    refine lv_iload_n hx hb dX6_nameHere_73 rfl (lv_at hl9 3 rfl) ?_
                    refine lv_iadd hx hb dX6_nameHere_74 ?_
                    obtain ⟨y75, hy75, hm⟩ := bn hm
                    refine cVRi (As := [.int ((v 0 24) + z51.2)]) (rest := []) X hP0 hl9.1 (c_X6_byteAt l D q a v ((v 0 24) + z51.2) y75 hy75) [0, 1, 2, 3, 4, 5, 6, 7, 8, 9, 10, 11, 12, 13, 14, 15, 16, 17] rfl 0 rfl rfl rfl k_1012 mX6_byteAt ⟨rfl, rfl⟩ ⟨Nat.le_of_ble_eq_true rfl, Nat.le_of_ble_eq_true rfl⟩ rfl rfl (Nat.le_of_ble_eq_true rfl) dX6_nameHere_75 ⟨Nat.zero_le _, Nat.zero_le _⟩ ?_
                    refine lv_aload_n hx hb dX6_nameHere_78 rfl (lv_at hl9 0 rfl) ?_
                    refine va_get (D := D) (ci := 6) (v := .ref (a 28)) (C := RX6) (T := TX6) (N := 40) hx hb hW iX6 hown hK hP0 0 rfl rfl 28 (by decide) (hW _ k_895) (fun _ h => h) rfl dX6_nameHere_79 ?_
                    refine lv_aload_n hx hb dX6_nameHere_82 rfl (lv_at hl9 0 rfl) ?_
                    refine va_get (D := D) (ci := 6) (v := .ref (a 27)) (C := RX6) (T := TX6) (N := 40) hx hb hW iX6 hown hK hP0 0 rfl rfl 27 (by decide) (hW _ k_894) (fun _ h => h) rfl dX6_nameHere_83 ?_
                    refine lv_iload_n hx hb dX6_nameHere_86 rfl (lv_at hl9 1 rfl) ?_
                    obtain ⟨h12, hm⟩ := ckd hm
                    refine va_iald (f := (v 27)) hx hb hK hP0 8 0 rfl rfl (inB_vp h12) dX6_nameHere_87 ?_
                    refine lv_iload_n hx hb dX6_nameHere_88 rfl (lv_at hl9 3 rfl) ?_
                    refine lv_iadd hx hb dX6_nameHere_89 ?_
                    obtain ⟨h13, hm⟩ := ckd hm
                    refine va_iald (f := (v 28)) hx hb hK hP0 9 0 rfl rfl (inB_vp h13) dX6_nameHere_90 ?_
                    refine lv_icmp_ne (tgt := 98) hx hb dX6_nameHere_91 (by decide) (fun c91 => ?_) (fun c91 => ?_)
                    · replace hm := tn hm c91
                      refine lv_iconst (v := (0 : Int32)) hx hb dX6_nameHere_98 (by decide) ?_
                      refine lv_istore_n (lv' := [(2, .int (0 : Int32)), (0, .ref (a 99)), (1, .int z2), (3, .int z51.2)]) hx hb dX6_nameHere_99 rfl hl9 (by decide) rfl (fun ls16 hl16 => ?_)
                      clear hl9
                      refine lv_iinc (v := (z51.2 + (1 : Int32))) (lv' := [(3, .int (z51.2 + (1 : Int32))), (2, .int (0 : Int32)), (0, .ref (a 99)), (1, .int z2)]) hx hb dX6_nameHere_100 hl16 (k := 3) rfl rfl (by decide) rfl (fun ls17 hl17 => ?_)
                      clear hl16
                      refine lv_goto (tgt := 51) hx hb dX6_nameHere_103 (by decide) ?_
                      cases hm
                      exact ih51 ((0 : Int32), (z51.2 + (1 : Int32))) ρ51 hz51 hK51 _ (lv_sub hl17 [2, 3, 1, 0] rfl)
                    · replace hm := tp hm c91
                      refine lv_iconst (v := (1 : Int32)) hx hb dX6_nameHere_94 (by decide) ?_
                      refine lv_goto (tgt := 99) hx hb dX6_nameHere_95 (by decide) ?_
                      refine lv_istore_n (lv' := [(2, .int (1 : Int32)), (0, .ref (a 99)), (1, .int z2), (3, .int z51.2)]) hx hb dX6_nameHere_99 rfl hl9 (by decide) rfl (fun ls14 hl14 => ?_)
                      clear hl9
                      refine lv_iinc (v := (z51.2 + (1 : Int32))) (lv' := [(3, .int (z51.2 + (1 : Int32))), (2, .int (1 : Int32)), (0, .ref (a 99)), (1, .int z2)]) hx hb dX6_nameHere_100 hl14 (k := 3) rfl rfl (by decide) rfl (fun ls15 hl15 => ?_)
                      clear hl14
                      refine lv_goto (tgt := 51) hx hb dX6_nameHere_103 (by decide) ?_
                      cases hm
                      exact ih51 ((1 : Int32), (z51.2 + (1 : Int32))) ρ51 hz51 hK51 _ (lv_sub hl15 [2, 3, 1, 0] rfl)
            exact hL51 n51 (z48, (0 : Int32)) r51 hn51 hm _ (lv_sub hl8 [2, 3, 1, 0] rfl)
          refine lv_icmp_ne (tgt := 47) hx hb dX6_nameHere_40 (by decide) (fun c40 => ?_) (fun c40 => ?_)
          · replace hm := tn hm c40
            refine lv_iconst (v := (0 : Int32)) hx hb dX6_nameHere_47 (by decide) ?_
            exact hJ48 (0 : Int32) hm _ (lv_sub hl2 [0, 1] rfl)
          · replace hm := tp hm c40
            refine lv_iconst (v := (1 : Int32)) hx hb dX6_nameHere_43 (by decide) ?_
            refine lv_goto (tgt := 48) hx hb dX6_nameHere_44 (by decide) ?_
            exact hJ48 (1 : Int32) hm _ (lv_sub hl2 [0, 1] rfl)
  exact hL2 n2 (0 : Int32) r2 hn2 hm _ (lv_sub hl1 [1, 0] rfl)
noncomputable def m_X6_step_K140 (z140 : SV) : Option (SV) :=
  lett (up2 z140 0 25 (2 : Int32)) (fun v16_ => (if ((v16_ 0 23) - (v16_ 0 24)) ≤ (2 : Int32) then some v16_ else (m_X6_fails v16_ (1 : Int32)).bind (fun y237 => some y237)))
noncomputable def m_X6_step_L140 (z140 : SV) : Option ((SV) ⊕ (SV)) :=
  (m_X6_byteAt z140 (z140 0 23)).bind (fun y145 => (m_X6_in (y145.toInt64) (48 : Int64) (57 : Int64)).bind (fun y155 => (if y155 = 0 then some (.inr z140) else (if (2 : Int32) ≤ ((z140 0 23) - (z140 0 24)) then lett (up2 z140 0 26 (z140 0 26)) (fun v18_ => lett (up2 v18_ 0 23 ((v18_ 0 23) + (1 : Int32))) (fun v19_ => some (.inl v19_))) else (m_X6_byteAt z140 (z140 0 23)).bind (fun y187 => lett (up2 z140 0 26 ((((10 : Int32) * (z140 0 26)) + y187) - (48 : Int32))) (fun v20_ => lett (up2 v20_ 0 23 ((v20_ 0 23) + (1 : Int32))) (fun v21_ => some (.inl v21_))))))))
noncomputable def m_X6_step_K84 (z84 : SV) : Option (SV) :=
  lett (up2 z84 0 25 (1 : Int32)) (fun v26_ => some v26_)
noncomputable def m_X6_step_L84 (z84 : SV) : Option ((SV) ⊕ (SV)) :=
  (m_X6_byteAt z84 (z84 0 23)).bind (fun y89 => (m_X6_in (y89.toInt64) (97 : Int64) (122 : Int64)).bind (fun y99 => (if y99 = 0 then some (.inr z84) else lett (up2 z84 0 23 ((z84 0 23) + (1 : Int32))) (fun v27_ => some (.inl v27_)))))
noncomputable def m_X6_step_K8 (z8 : SV) : Option (SV) :=
  lett (up2 z8 0 24 (z8 0 23)) (fun v5_ => (m_X6_byteAt v5_ (v5_ 0 23)).bind (fun y47 => lett (up2 v5_ 0 26 (0 : Int32)) (fun v7_ => (if y47 = (-4 : Int32) then lett (up2 v7_ 0 25 (0 : Int32)) (fun v8_ => some v8_) else (m_X6_in (y47.toInt64) (97 : Int64) (122 : Int64)).bind (fun y78 => (if y78 = 0 then (m_X6_in (y47.toInt64) (48 : Int64) (57 : Int64)).bind (fun y134 => (if y134 = 0 then lett (up2 v7_ 0 25 (3 : Int32)) (fun v9_ => lett (up2 v9_ 0 23 ((v9_ 0 23) + (1 : Int32))) (fun v10_ => (if y47 = (59 : Int32) then some v10_ else (m_X6_fails v10_ (1 : Int32)).bind (fun y266 => some y266)))) else (lpC (m_X6_step_L140) v7_).bind (m_X6_step_K140))) else (lpC (m_X6_step_L84) v7_).bind (m_X6_step_K84)))))))
noncomputable def m_X6_step_L8 (z8 : SV) : Option ((SV) ⊕ (SV)) :=
  (m_X6_byteAt z8 (z8 0 23)).bind (fun y13 => (if y13 = (32 : Int32) then lett (up2 z8 0 23 ((z8 0 23) + (1 : Int32))) (fun v28_ => some (.inl v28_)) else some (.inr z8)))
noncomputable def m_X6_step (v : SV) : Option (SV) :=
  (if (v 0 21) ≤ 0 then (lpC (m_X6_step_L8) v).bind (m_X6_step_K8) else some v)
set_option maxHeartbeats 4000000 in
set_option maxRecDepth 100000 in
theorem c_X6_step (l : Launch) (D : va_G) (q : Nat → ClassId) (sz : Nat) (a : Nat → Nat) (v : SV) (res : SV) (hm : m_X6_step v = some res) : Met l yX6_step (mw yX6_step cX6_step 2 none) ({ frames := 1, cells := 0, slots := 0, locals := 25 } : Room) (pcW D q (wX6 q a v) sz [.ref (a 99)]) (va_Qv (fun w => w = res) (bW D q (wX6 q a v) sz (fun (uu : SV) => wX6 q a uu)) (va_A (wX6 q a v) sz)) 0 0 (va_A (wX6 q a v) sz) := by
  refine Met.ofW (cc := cX6_step) (maxL := 2) (ret := none) (by decide) rfl ?_
  intro p e s m args below meth c s₁ B hml hv
  obtain ⟨rfl, hsz, hP0, hK, hD0⟩ := hv
  have hx := B.exec
  have hb := B.bytes
  have hr := B.returns
  have hW := mw_ws (atoms_spec (ws := mw yX6_step cX6_step 2 none) B.pre)
  have hown : s.vm.findClass RX6 = some m.cls := findClass_of_methodNamed B.named
  have hlocks := B.notSynchronized
  have X : Cx p s m [.ref (a 99)].toArray c cX6_step 2 RX6 D q := ⟨hx, hb, hml, hown, hW, hK⟩
  subst hsz
  replace hD0 := hD0.self (sz := s.heap.size)
  have hS0 : va_S (va_A (wX6 q a v) s.heap.size) s.heap s.heap [] := va_S.rf
  have hl0 := lv_entry ([.ref (a 99)]) (n := 2) (Nat.le_of_ble_eq_true rfl)
  rw [lg_entry_eq]
  generalize (lg_sl ([.ref (a 99)]) ++ List.replicate (2 - (lg_sl ([.ref (a 99)])).length) Slot.unset).toArray = ls0 at hl0 ⊢
  have hl0 : lv_has ls0 2 [(0, .ref (a 99))] := hl0
  unfold m_X6_step at hm
  refine lv_aload_n hx hb dX6_step_0 rfl (lv_at hl0 0 rfl) ?_
  refine va_get (D := D) (ci := 6) (v := .int (v 0 21)) (C := RX6) (T := TX6) (N := 40) hx hb hW iX6 hown hK hP0 0 rfl rfl 21 (by decide) (hW _ k_888) (fun _ h => h) rfl dX6_step_1 ?_
  refine lv_if_le (tgt := 8) hx hb dX6_step_4 (by decide) (fun c4 => ?_) (fun c4 => ?_)
  · replace hm := tp hm c4
    obtain ⟨r8, hr8, hm⟩ := bn hm
    obtain ⟨n8, hn8⟩ := lpC_ex hr8
    have hE8 : ∀ z8 : SV, m_X6_step_K8 z8 = some res → ∀ (H : Heap) (locs : List Loc), va_P D cls (wX6 q a z8) H → va_D (va_A (wX6 q a v) s.heap.size) (wX6 q a z8) → va_S (va_A (wX6 q a v) s.heap.size) s.heap H locs → ∀ ls : Array Slot, lv_has ls 2 [(0, .ref (a 99))] → W p l e ((headSpec (mw yX6_step cX6_step 2 none) ({ frames := 1, cells := 0, slots := 0, locals := 25 } : Room)).room) s m [.ref (a 99)].toArray below meth c H locs 0 0 (MQ below (va_Qv (fun w => w = res) (bW D q (wX6 q a v) s.heap.size (fun (uu : SV) => wX6 q a uu)) (va_A (wX6 q a v) s.heap.size)) [.ref (a 99)].toArray s 0 0 (va_A (wX6 q a v) s.heap.size)) (F0 m 34 ls []) := by
      intro z8 hm H4 locs4 hP4 hD4 hS4 ls3 hl3
      unfold m_X6_step_K8 at hm
      refine lv_aload_n hx hb dX6_step_34 rfl (lv_at hl3 0 rfl) ?_
      refine lv_aload_n hx hb dX6_step_35 rfl (lv_at hl3 0 rfl) ?_
      refine va_get (D := D) (ci := 6) (v := .int (z8 0 23)) (C := RX6) (T := TX6) (N := 40) hx hb hW iX6 hown hK hP4 0 rfl rfl 23 (by decide) (hW _ k_890) (fun _ h => h) rfl dX6_step_36 ?_
      refine va_put (D := D) (ci := 6) (v := .int (z8 0 23)) (ty := .int) (C := RX6) (T := TX6) (N := 40) hx hb hW iX6 tyX6 tyX6_ok nmX6 hown hK hP4 hD4 hS4 0 rfl rfl 24 (by decide) (hW _ k_891) (fun _ h => h) rfl (by decide +kernel) rfl rfl (Nat.le_of_ble_eq_true rfl) dX6_step_39 (fun H5 locs5 hP hD hS5 => ?_)
      obtain ⟨v5_, e5, hm⟩ := ltd hm
      have hP5 : va_P D cls (wX6 q a v5_) H5 := by rw [e5]; exact hP
      have hD5 : va_D (va_A (wX6 q a v) s.heap.size) (wX6 q a v5_) := by rw [e5]; exact hD
      clear hP hD hP4 hD4 hS4
      refine lv_aload_n hx hb dX6_step_42 rfl (lv_at hl3 0 rfl) ?_
      refine lv_aload_n hx hb dX6_step_43 rfl (lv_at hl3 0 rfl) ?_
      refine va_get (D := D) (ci := 6) (v := .int (v5_ 0 23)) (C := RX6) (T := TX6) (N := 40) hx hb hW iX6 hown hK hP5 0 rfl rfl 23 (by decide) (hW _ k_890) (fun _ h => h) rfl dX6_step_44 ?_
      obtain ⟨y47, hy47, hm⟩ := bn hm
      refine cVRi (As := [.int (v5_ 0 23)]) (rest := []) X hP5 hl3.1 (c_X6_byteAt l D q a v5_ (v5_ 0 23) y47 hy47) [0, 1, 2, 3, 4, 5, 6, 7, 8, 9, 10, 11, 12, 13, 14, 15, 16, 17] rfl 0 rfl rfl rfl k_1012 mX6_byteAt ⟨rfl, rfl⟩ ⟨Nat.le_of_ble_eq_true rfl, Nat.le_of_ble_eq_true rfl⟩ rfl rfl (Nat.le_of_ble_eq_true rfl) dX6_step_47 ⟨Nat.zero_le _, Nat.zero_le _⟩ ?_
      refine lv_istore_n (lv' := [(1, .int y47), (0, .ref (a 99))]) hx hb dX6_step_50 rfl hl3 (by decide) rfl (fun ls6 hl6 => ?_)
      clear hl3
      refine lv_aload_n hx hb dX6_step_51 rfl (lv_at hl6 1 rfl) ?_
      refine lv_iconst (v := (0 : Int32)) hx hb dX6_step_52 (by decide) ?_
      refine va_put (D := D) (ci := 6) (v := .int (0 : Int32)) (ty := .int) (C := RX6) (T := TX6) (N := 40) hx hb hW iX6 tyX6 tyX6_ok nmX6 hown hK hP5 hD5 hS5 0 rfl rfl 26 (by decide) (hW _ k_893) (fun _ h => h) rfl (by decide +kernel) rfl rfl (Nat.le_of_ble_eq_true rfl) dX6_step_53 (fun H7 locs7 hP hD hS7 => ?_)
      obtain ⟨v7_, e7, hm⟩ := ltd hm
      have hP7 : va_P D cls (wX6 q a v7_) H7 := by rw [e7]; exact hP
      have hD7 : va_D (va_A (wX6 q a v) s.heap.size) (wX6 q a v7_) := by rw [e7]; exact hD
      clear hP hD hP5 hD5 hS5
      refine lv_iload_n hx hb dX6_step_56 rfl (lv_at hl6 0 rfl) ?_
      refine lv_bipush (v := (-4 : Int32)) hx hb dX6_step_57 (by decide) ?_
      refine lv_icmp_ne (tgt := 70) hx hb dX6_step_59 (by decide) (fun c59 => ?_) (fun c59 => ?_)
      · replace hm := tn hm c59
        refine lv_iload_n hx hb dX6_step_70 rfl (lv_at hl6 0 rfl) ?_
        refine lv_i2l hx hb dX6_step_71 rfl ?_
        refine lv_ldc2 (v := (97 : Int64)) hx hb hown (hW _ k_1016) dX6_step_72 ?_
        refine lv_ldc2 (v := (122 : Int64)) hx hb hown (hW _ k_1017) dX6_step_75 ?_
        obtain ⟨y78, hy78, hm⟩ := bn hm
        refine cSRi (As := [.long (y47.toInt64), .long (97 : Int64), .long (122 : Int64)]) (rest := []) X hP7 hl6.1 (c_X6_in l D q (y47.toInt64) (97 : Int64) (122 : Int64) y78 hy78) [] rfl k_993 mX6_in ⟨rfl, rfl⟩ ⟨Nat.le_of_ble_eq_true rfl, Nat.le_of_ble_eq_true rfl⟩ rfl rfl (Nat.le_of_ble_eq_true rfl) dX6_step_78 ⟨Nat.zero_le _, Nat.zero_le _⟩ ?_
        refine lv_if_eq (tgt := 126) hx hb dX6_step_81 (by decide) (fun c81 => ?_) (fun c81 => ?_)
        · replace hm := tp hm c81
          refine lv_iload_n hx hb dX6_step_126 rfl (lv_at hl6 0 rfl) ?_
          refine lv_i2l hx hb dX6_step_127 rfl ?_
          refine lv_ldc2 (v := (48 : Int64)) hx hb hown (hW _ k_1018) dX6_step_128 ?_
          refine lv_ldc2 (v := (57 : Int64)) hx hb hown (hW _ k_1019) dX6_step_131 ?_
          obtain ⟨y134, hy134, hm⟩ := bn hm
          refine cSRi (As := [.long (y47.toInt64), .long (48 : Int64), .long (57 : Int64)]) (rest := []) X hP7 hl6.1 (c_X6_in l D q (y47.toInt64) (48 : Int64) (57 : Int64) y134 hy134) [] rfl k_993 mX6_in ⟨rfl, rfl⟩ ⟨Nat.le_of_ble_eq_true rfl, Nat.le_of_ble_eq_true rfl⟩ rfl rfl (Nat.le_of_ble_eq_true rfl) dX6_step_134 ⟨Nat.zero_le _, Nat.zero_le _⟩ ?_
          refine lv_if_eq (tgt := 243) hx hb dX6_step_137 (by decide) (fun c137 => ?_) (fun c137 => ?_)
          · replace hm := tp hm c137
            refine lv_aload_n hx hb dX6_step_243 rfl (lv_at hl6 1 rfl) ?_
            refine lv_iconst (v := (3 : Int32)) hx hb dX6_step_244 (by decide) ?_
            refine va_put (D := D) (ci := 6) (v := .int (3 : Int32)) (ty := .int) (C := RX6) (T := TX6) (N := 40) hx hb hW iX6 tyX6 tyX6_ok nmX6 hown hK hP7 hD7 hS7 0 rfl rfl 25 (by decide) (hW _ k_892) (fun _ h => h) rfl (by decide +kernel) rfl rfl (Nat.le_of_ble_eq_true rfl) dX6_step_245 (fun H9 locs9 hP hD hS9 => ?_)
            obtain ⟨v9_, e9, hm⟩ := ltd hm
            have hP9 : va_P D cls (wX6 q a v9_) H9 := by rw [e9]; exact hP
            have hD9 : va_D (va_A (wX6 q a v) s.heap.size) (wX6 q a v9_) := by rw [e9]; exact hD
            clear hP hD hP7 hD7 hS7
            refine lv_aload_n hx hb dX6_step_248 rfl (lv_at hl6 1 rfl) ?_
            refine lv_dup hx hb dX6_step_249 rfl ?_
            refine va_get (D := D) (ci := 6) (v := .int (v9_ 0 23)) (C := RX6) (T := TX6) (N := 40) hx hb hW iX6 hown hK hP9 0 rfl rfl 23 (by decide) (hW _ k_890) (fun _ h => h) rfl dX6_step_250 ?_
            refine lv_iconst (v := (1 : Int32)) hx hb dX6_step_253 (by decide) ?_
            refine lv_iadd hx hb dX6_step_254 ?_
            refine va_put (D := D) (ci := 6) (v := .int ((v9_ 0 23) + (1 : Int32))) (ty := .int) (C := RX6) (T := TX6) (N := 40) hx hb hW iX6 tyX6 tyX6_ok nmX6 hown hK hP9 hD9 hS9 0 rfl rfl 23 (by decide) (hW _ k_890) (fun _ h => h) rfl (by decide +kernel) rfl rfl (Nat.le_of_ble_eq_true rfl) dX6_step_255 (fun H10 locs10 hP hD hS10 => ?_)
            obtain ⟨v10_, e10, hm⟩ := ltd hm
            have hP10 : va_P D cls (wX6 q a v10_) H10 := by rw [e10]; exact hP
            have hD10 : va_D (va_A (wX6 q a v) s.heap.size) (wX6 q a v10_) := by rw [e10]; exact hD
            clear hP hD hP9 hD9 hS9
            refine lv_iload_n hx hb dX6_step_258 rfl (lv_at hl6 0 rfl) ?_
            refine lv_bipush (v := (59 : Int32)) hx hb dX6_step_259 (by decide) ?_
            refine lv_icmp_eq (tgt := 269) hx hb dX6_step_261 (by decide) (fun c261 => ?_) (fun c261 => ?_)
            · replace hm := tp hm c261
              exact eWv (Wf := fun (uu : SV) => wX6 q a uu) (u := v10_) X hr hlocks hP10 hD10 hS10 hm dX6_step_269
            · replace hm := tn hm c261
              refine lv_aload_n hx hb dX6_step_264 rfl (lv_at hl6 1 rfl) ?_
              refine lv_iconst (v := (1 : Int32)) hx hb dX6_step_265 (by decide) ?_
              obtain ⟨y266, hy266, hm⟩ := bn hm
              refine cVWv (As := [.int (1 : Int32)]) (rest := []) (Wn := fun (uu : SV) => wX6 q a uu) X hP10 hD10 hS10 (fun _ h => Or.inr h) hl6.1 (c_X6_fails l D q H10.size a v10_ (1 : Int32) y266 hy266) [0, 1, 2, 3, 4, 5, 6, 7, 8, 9, 10, 11, 12, 13, 14, 15, 16, 17] [] [0, 1, 2, 3, 4, 5, 6, 7, 8, 9, 10, 11, 12, 13, 14, 15, 16, 17] rfl (Wr := []) rfl (by decide) (by decide) (by decide) (by decide) (fun _ => rfl) 0 rfl rfl rfl k_1020 mX6_fails ⟨rfl, rfl⟩ ⟨Nat.le_of_ble_eq_true rfl, Nat.le_of_ble_eq_true rfl⟩ rfl rfl (Nat.le_of_ble_eq_true rfl) dX6_step_266 ⟨Nat.zero_le _, Nat.zero_le _⟩ (fun H11 locs11 hP hD hS11 => ?_)
              have hP11 : va_P D cls (wX6 q a y266) H11 := hP
              have hD11 : va_D (va_A (wX6 q a v) s.heap.size) (wX6 q a y266) := hD
              clear hP hD hP10 hD10 hS10
              exact eWv (Wf := fun (uu : SV) => wX6 q a uu) (u := y266) X hr hlocks hP11 hD11 hS11 hm dX6_step_269
          · replace hm := tn hm c137
            obtain ⟨r140, hr140, hm⟩ := bn hm
            obtain ⟨n140, hn140⟩ := lpC_ex hr140
            have hE140 : ∀ z140 : SV, m_X6_step_K140 z140 = some res → ∀ (H : Heap) (locs : List Loc), va_P D cls (wX6 q a z140) H → va_D (va_A (wX6 q a v) s.heap.size) (wX6 q a z140) → va_S (va_A (wX6 q a v) s.heap.size) s.heap H locs → ∀ ls : Array Slot, lv_has ls 2 [(0, .ref (a 99))] → W p l e ((headSpec (mw yX6_step cX6_step 2 none) ({ frames := 1, cells := 0, slots := 0, locals := 25 } : Room)).room) s m [.ref (a 99)].toArray below meth c H locs 0 0 (MQ below (va_Qv (fun w => w = res) (bW D q (wX6 q a v) s.heap.size (fun (uu : SV) => wX6 q a uu)) (va_A (wX6 q a v) s.heap.size)) [.ref (a 99)].toArray s 0 0 (va_A (wX6 q a v) s.heap.size)) (F0 m 217 ls []) := by
              intro z140 hm H15 locs15 hP15 hD15 hS15 ls14 hl14
              unfold m_X6_step_K140 at hm
              refine lv_aload_n hx hb dX6_step_217 rfl (lv_at hl14 0 rfl) ?_
              refine lv_iconst (v := (2 : Int32)) hx hb dX6_step_218 (by decide) ?_
              refine va_put (D := D) (ci := 6) (v := .int (2 : Int32)) (ty := .int) (C := RX6) (T := TX6) (N := 40) hx hb hW iX6 tyX6 tyX6_ok nmX6 hown hK hP15 hD15 hS15 0 rfl rfl 25 (by decide) (hW _ k_892) (fun _ h => h) rfl (by decide +kernel) rfl rfl (Nat.le_of_ble_eq_true rfl) dX6_step_219 (fun H16 locs16 hP hD hS16 => ?_)
              obtain ⟨v16_, e16, hm⟩ := ltd hm
              have hP16 : va_P D cls (wX6 q a v16_) H16 := by rw [e16]; exact hP
              have hD16 : va_D (va_A (wX6 q a v) s.heap.size) (wX6 q a v16_) := by rw [e16]; exact hD
              clear hP hD hP15 hD15 hS15
              refine lv_aload_n hx hb dX6_step_222 rfl (lv_at hl14 0 rfl) ?_
              refine va_get (D := D) (ci := 6) (v := .int (v16_ 0 23)) (C := RX6) (T := TX6) (N := 40) hx hb hW iX6 hown hK hP16 0 rfl rfl 23 (by decide) (hW _ k_890) (fun _ h => h) rfl dX6_step_223 ?_
              refine lv_aload_n hx hb dX6_step_226 rfl (lv_at hl14 0 rfl) ?_
              refine va_get (D := D) (ci := 6) (v := .int (v16_ 0 24)) (C := RX6) (T := TX6) (N := 40) hx hb hW iX6 hown hK hP16 0 rfl rfl 24 (by decide) (hW _ k_891) (fun _ h => h) rfl dX6_step_227 ?_
              refine lv_isub hx hb dX6_step_230 ?_
              refine lv_iconst (v := (2 : Int32)) hx hb dX6_step_231 (by decide) ?_
              refine lv_icmp_le (tgt := 269) hx hb dX6_step_232 (by decide) (fun c232 => ?_) (fun c232 => ?_)
              · replace hm := tp hm c232
                exact eWv (Wf := fun (uu : SV) => wX6 q a uu) (u := v16_) X hr hlocks hP16 hD16 hS16 hm dX6_step_269
              · replace hm := tn hm c232
                refine lv_aload_n hx hb dX6_step_235 rfl (lv_at hl14 0 rfl) ?_
                refine lv_iconst (v := (1 : Int32)) hx hb dX6_step_236 (by decide) ?_
                obtain ⟨y237, hy237, hm⟩ := bn hm
                refine cVWv (As := [.int (1 : Int32)]) (rest := []) (Wn := fun (uu : SV) => wX6 q a uu) X hP16 hD16 hS16 (fun _ h => Or.inr h) hl14.1 (c_X6_fails l D q H16.size a v16_ (1 : Int32) y237 hy237) [0, 1, 2, 3, 4, 5, 6, 7, 8, 9, 10, 11, 12, 13, 14, 15, 16, 17] [] [0, 1, 2, 3, 4, 5, 6, 7, 8, 9, 10, 11, 12, 13, 14, 15, 16, 17] rfl (Wr := []) rfl (by decide) (by decide) (by decide) (by decide) (fun _ => rfl) 0 rfl rfl rfl k_1020 mX6_fails ⟨rfl, rfl⟩ ⟨Nat.le_of_ble_eq_true rfl, Nat.le_of_ble_eq_true rfl⟩ rfl rfl (Nat.le_of_ble_eq_true rfl) dX6_step_237 ⟨Nat.zero_le _, Nat.zero_le _⟩ (fun H17 locs17 hP hD hS17 => ?_)
                have hP17 : va_P D cls (wX6 q a y237) H17 := hP
                have hD17 : va_D (va_A (wX6 q a v) s.heap.size) (wX6 q a y237) := hD
                clear hP hD hP16 hD16 hS16
                refine lv_goto (tgt := 269) hx hb dX6_step_240 (by decide) ?_
                exact eWv (Wf := fun (uu : SV) => wX6 q a uu) (u := y237) X hr hlocks hP17 hD17 hS17 hm dX6_step_269
            have hL140 : ∀ (n : Nat) (z140 : SV) (ρ140 : SV), lpO (m_X6_step_L140) n z140 = some ρ140 → (m_X6_step_K140) ρ140 = some res → ∀ (H : Heap) (locs : List Loc), va_P D cls (wX6 q a z140) H → va_D (va_A (wX6 q a v) s.heap.size) (wX6 q a z140) → va_S (va_A (wX6 q a v) s.heap.size) s.heap H locs → ∀ ls : Array Slot, lv_has ls 2 [(0, .ref (a 99))] → W p l e ((headSpec (mw yX6_step cX6_step 2 none) ({ frames := 1, cells := 0, slots := 0, locals := 25 } : Room)).room) s m [.ref (a 99)].toArray below meth c H locs 0 0 (MQ below (va_Qv (fun w => w = res) (bW D q (wX6 q a v) s.heap.size (fun (uu : SV) => wX6 q a uu)) (va_A (wX6 q a v) s.heap.size)) [.ref (a 99)].toArray s 0 0 (va_A (wX6 q a v) s.heap.size)) (F0 m 140 ls []) := by
              intro n
              induction n with
              | zero => intro _ _ h; cases h
              | succ n ih140 =>
                intro z140 ρ140 hz140 hK140 H13 locs13 hP13 hD13 hS13 ls12 hl12
                obtain ⟨t140, hm, hz140⟩ := bn hz140
                unfold m_X6_step_L140 at hm
                refine lv_aload_n hx hb dX6_step_140 rfl (lv_at hl12 0 rfl) ?_
                refine lv_aload_n hx hb dX6_step_141 rfl (lv_at hl12 0 rfl) ?_
                refine va_get (D := D) (ci := 6) (v := .int (z140 0 23)) (C := RX6) (T := TX6) (N := 40) hx hb hW iX6 hown hK hP13 0 rfl rfl 23 (by decide) (hW _ k_890) (fun _ h => h) rfl dX6_step_142 ?_
                obtain ⟨y145, hy145, hm⟩ := bn hm
                refine cVRi (As := [.int (z140 0 23)]) (rest := []) X hP13 hl12.1 (c_X6_byteAt l D q a z140 (z140 0 23) y145 hy145) [0, 1, 2, 3, 4, 5, 6, 7, 8, 9, 10, 11, 12, 13, 14, 15, 16, 17] rfl 0 rfl rfl rfl k_1012 mX6_byteAt ⟨rfl, rfl⟩ ⟨Nat.le_of_ble_eq_true rfl, Nat.le_of_ble_eq_true rfl⟩ rfl rfl (Nat.le_of_ble_eq_true rfl) dX6_step_145 ⟨Nat.zero_le _, Nat.zero_le _⟩ ?_
                refine lv_i2l hx hb dX6_step_148 rfl ?_
                refine lv_ldc2 (v := (48 : Int64)) hx hb hown (hW _ k_1018) dX6_step_149 ?_
                refine lv_ldc2 (v := (57 : Int64)) hx hb hown (hW _ k_1019) dX6_step_152 ?_
                obtain ⟨y155, hy155, hm⟩ := bn hm
                refine cSRi (As := [.long (y145.toInt64), .long (48 : Int64), .long (57 : Int64)]) (rest := []) X hP13 hl12.1 (c_X6_in l D q (y145.toInt64) (48 : Int64) (57 : Int64) y155 hy155) [] rfl k_993 mX6_in ⟨rfl, rfl⟩ ⟨Nat.le_of_ble_eq_true rfl, Nat.le_of_ble_eq_true rfl⟩ rfl rfl (Nat.le_of_ble_eq_true rfl) dX6_step_155 ⟨Nat.zero_le _, Nat.zero_le _⟩ ?_
                refine lv_if_eq (tgt := 217) hx hb dX6_step_158 (by decide) (fun c158 => ?_) (fun c158 => ?_)
                · replace hm := tp hm c158
                  cases hm
                  cases hz140
                  exact hE140 z140 hK140 _ _ hP13 hD13 hS13 _ (lv_sub hl12 [0] rfl)
                · replace hm := tn hm c158
                  refine lv_aload_n hx hb dX6_step_161 rfl (lv_at hl12 0 rfl) ?_
                  refine lv_aload_n hx hb dX6_step_162 rfl (lv_at hl12 0 rfl) ?_
                  refine va_get (D := D) (ci := 6) (v := .int (z140 0 23)) (C := RX6) (T := TX6) (N := 40) hx hb hW iX6 hown hK hP13 0 rfl rfl 23 (by decide) (hW _ k_890) (fun _ h => h) rfl dX6_step_163 ?_
                  refine lv_aload_n hx hb dX6_step_166 rfl (lv_at hl12 0 rfl) ?_
                  refine va_get (D := D) (ci := 6) (v := .int (z140 0 24)) (C := RX6) (T := TX6) (N := 40) hx hb hW iX6 hown hK hP13 0 rfl rfl 24 (by decide) (hW _ k_891) (fun _ h => h) rfl dX6_step_167 ?_
                  refine lv_isub hx hb dX6_step_170 ?_
                  refine lv_iconst (v := (2 : Int32)) hx hb dX6_step_171 (by decide) ?_
                  refine lv_icmp_ge (tgt := 197) hx hb dX6_step_172 (by decide) (fun c172 => ?_) (fun c172 => ?_)
                  · replace hm := tp hm c172
                    refine lv_aload_n hx hb dX6_step_197 rfl (lv_at hl12 0 rfl) ?_
                    refine va_get (D := D) (ci := 6) (v := .int (z140 0 26)) (C := RX6) (T := TX6) (N := 40) hx hb hW iX6 hown hK hP13 0 rfl rfl 26 (by decide) (hW _ k_893) (fun _ h => h) rfl dX6_step_198 ?_
                    refine va_put (D := D) (ci := 6) (v := .int (z140 0 26)) (ty := .int) (C := RX6) (T := TX6) (N := 40) hx hb hW iX6 tyX6 tyX6_ok nmX6 hown hK hP13 hD13 hS13 0 rfl rfl 26 (by decide) (hW _ k_893) (fun _ h => h) rfl (by decide +kernel) rfl rfl (Nat.le_of_ble_eq_true rfl) dX6_step_201 (fun H18 locs18 hP hD hS18 => ?_)
                    obtain ⟨v18_, e18, hm⟩ := ltd hm
                    have hP18 : va_P D cls (wX6 q a v18_) H18 := by rw [e18]; exact hP
                    have hD18 : va_D (va_A (wX6 q a v) s.heap.size) (wX6 q a v18_) := by rw [e18]; exact hD
                    clear hP hD hP13 hD13 hS13
                    refine lv_aload_n hx hb dX6_step_204 rfl (lv_at hl12 0 rfl) ?_
                    refine lv_dup hx hb dX6_step_205 rfl ?_
                    refine va_get (D := D) (ci := 6) (v := .int (v18_ 0 23)) (C := RX6) (T := TX6) (N := 40) hx hb hW iX6 hown hK hP18 0 rfl rfl 23 (by decide) (hW _ k_890) (fun _ h => h) rfl dX6_step_206 ?_
                    refine lv_iconst (v := (1 : Int32)) hx hb dX6_step_209 (by decide) ?_
                    refine lv_iadd hx hb dX6_step_210 ?_
                    refine va_put (D := D) (ci := 6) (v := .int ((v18_ 0 23) + (1 : Int32))) (ty := .int) (C := RX6) (T := TX6) (N := 40) hx hb hW iX6 tyX6 tyX6_ok nmX6 hown hK hP18 hD18 hS18 0 rfl rfl 23 (by decide) (hW _ k_890) (fun _ h => h) rfl (by decide +kernel) rfl rfl (Nat.le_of_ble_eq_true rfl) dX6_step_211 (fun H19 locs19 hP hD hS19 => ?_)
                    obtain ⟨v19_, e19, hm⟩ := ltd hm
                    have hP19 : va_P D cls (wX6 q a v19_) H19 := by rw [e19]; exact hP
                    have hD19 : va_D (va_A (wX6 q a v) s.heap.size) (wX6 q a v19_) := by rw [e19]; exact hD
                    clear hP hD hP18 hD18 hS18
                    refine lv_goto (tgt := 140) hx hb dX6_step_214 (by decide) ?_
                    cases hm
                    exact ih140 v19_ ρ140 hz140 hK140 _ _ hP19 hD19 hS19 _ (lv_sub hl12 [0] rfl)
                  · replace hm := tn hm c172
                    refine lv_bipush (v := (10 : Int32)) hx hb dX6_step_175 (by decide) ?_
                    refine lv_aload_n hx hb dX6_step_177 rfl (lv_at hl12 0 rfl) ?_
                    refine va_get (D := D) (ci := 6) (v := .int (z140 0 26)) (C := RX6) (T := TX6) (N := 40) hx hb hW iX6 hown hK hP13 0 rfl rfl 26 (by decide) (hW _ k_893) (fun _ h => h) rfl dX6_step_178 ?_
                    refine lv_imul hx hb dX6_step_181 ?_
                    refine lv_aload_n hx hb dX6_step_182 rfl (lv_at hl12 0 rfl) ?_
                    refine lv_aload_n hx hb dX6_step_183 rfl (lv_at hl12 0 rfl) ?_
                    refine va_get (D := D) (ci := 6) (v := .int (z140 0 23)) (C := RX6) (T := TX6) (N := 40) hx hb hW iX6 hown hK hP13 0 rfl rfl 23 (by decide) (hW _ k_890) (fun _ h => h) rfl dX6_step_184 ?_
                    obtain ⟨y187, hy187, hm⟩ := bn hm
                    refine cVRi (As := [.int (z140 0 23)]) (rest := [.int ((10 : Int32) * (z140 0 26)), .ref (a 99)]) X hP13 hl12.1 (c_X6_byteAt l D q a z140 (z140 0 23) y187 hy187) [0, 1, 2, 3, 4, 5, 6, 7, 8, 9, 10, 11, 12, 13, 14, 15, 16, 17] rfl 0 rfl rfl rfl k_1012 mX6_byteAt ⟨rfl, rfl⟩ ⟨Nat.le_of_ble_eq_true rfl, Nat.le_of_ble_eq_true rfl⟩ rfl rfl (Nat.le_of_ble_eq_true rfl) dX6_step_187 ⟨Nat.zero_le _, Nat.zero_le _⟩ ?_
                    refine lv_iadd hx hb dX6_step_190 ?_
                    refine lv_bipush (v := (48 : Int32)) hx hb dX6_step_191 (by decide) ?_
                    refine lv_isub hx hb dX6_step_193 ?_
                    refine lv_goto (tgt := 201) hx hb dX6_step_194 (by decide) ?_
                    refine va_put (D := D) (ci := 6) (v := .int ((((10 : Int32) * (z140 0 26)) + y187) - (48 : Int32))) (ty := .int) (C := RX6) (T := TX6) (N := 40) hx hb hW iX6 tyX6 tyX6_ok nmX6 hown hK hP13 hD13 hS13 0 rfl rfl 26 (by decide) (hW _ k_893) (fun _ h => h) rfl (by decide +kernel) rfl rfl (Nat.le_of_ble_eq_true rfl) dX6_step_201 (fun H20 locs20 hP hD hS20 => ?_)
                    obtain ⟨v20_, e20, hm⟩ := ltd hm
                    have hP20 : va_P D cls (wX6 q a v20_) H20 := by rw [e20]; exact hP
                    have hD20 : va_D (va_A (wX6 q a v) s.heap.size) (wX6 q a v20_) := by rw [e20]; exact hD
                    clear hP hD hP13 hD13 hS13
                    refine lv_aload_n hx hb dX6_step_204 rfl (lv_at hl12 0 rfl) ?_
                    refine lv_dup hx hb dX6_step_205 rfl ?_
                    refine va_get (D := D) (ci := 6) (v := .int (v20_ 0 23)) (C := RX6) (T := TX6) (N := 40) hx hb hW iX6 hown hK hP20 0 rfl rfl 23 (by decide) (hW _ k_890) (fun _ h => h) rfl dX6_step_206 ?_
                    refine lv_iconst (v := (1 : Int32)) hx hb dX6_step_209 (by decide) ?_
                    refine lv_iadd hx hb dX6_step_210 ?_
                    refine va_put (D := D) (ci := 6) (v := .int ((v20_ 0 23) + (1 : Int32))) (ty := .int) (C := RX6) (T := TX6) (N := 40) hx hb hW iX6 tyX6 tyX6_ok nmX6 hown hK hP20 hD20 hS20 0 rfl rfl 23 (by decide) (hW _ k_890) (fun _ h => h) rfl (by decide +kernel) rfl rfl (Nat.le_of_ble_eq_true rfl) dX6_step_211 (fun H21 locs21 hP hD hS21 => ?_)
                    obtain ⟨v21_, e21, hm⟩ := ltd hm
                    have hP21 : va_P D cls (wX6 q a v21_) H21 := by rw [e21]; exact hP
                    have hD21 : va_D (va_A (wX6 q a v) s.heap.size) (wX6 q a v21_) := by rw [e21]; exact hD
                    clear hP hD hP20 hD20 hS20
                    refine lv_goto (tgt := 140) hx hb dX6_step_214 (by decide) ?_
                    cases hm
                    exact ih140 v21_ ρ140 hz140 hK140 _ _ hP21 hD21 hS21 _ (lv_sub hl12 [0] rfl)
            exact hL140 n140 v7_ r140 hn140 hm _ _ hP7 hD7 hS7 _ (lv_sub hl6 [1] rfl)
        · replace hm := tn hm c81
          obtain ⟨r84, hr84, hm⟩ := bn hm
          obtain ⟨n84, hn84⟩ := lpC_ex hr84
          have hE84 : ∀ z84 : SV, m_X6_step_K84 z84 = some res → ∀ (H : Heap) (locs : List Loc), va_P D cls (wX6 q a z84) H → va_D (va_A (wX6 q a v) s.heap.size) (wX6 q a z84) → va_S (va_A (wX6 q a v) s.heap.size) s.heap H locs → ∀ ls : Array Slot, lv_has ls 2 [(0, .ref (a 99))] → W p l e ((headSpec (mw yX6_step cX6_step 2 none) ({ frames := 1, cells := 0, slots := 0, locals := 25 } : Room)).room) s m [.ref (a 99)].toArray below meth c H locs 0 0 (MQ below (va_Qv (fun w => w = res) (bW D q (wX6 q a v) s.heap.size (fun (uu : SV) => wX6 q a uu)) (va_A (wX6 q a v) s.heap.size)) [.ref (a 99)].toArray s 0 0 (va_A (wX6 q a v) s.heap.size)) (F0 m 118 ls []) := by
            intro z84 hm H25 locs25 hP25 hD25 hS25 ls24 hl24
            unfold m_X6_step_K84 at hm
            refine lv_aload_n hx hb dX6_step_118 rfl (lv_at hl24 0 rfl) ?_
            refine lv_iconst (v := (1 : Int32)) hx hb dX6_step_119 (by decide) ?_
            refine va_put (D := D) (ci := 6) (v := .int (1 : Int32)) (ty := .int) (C := RX6) (T := TX6) (N := 40) hx hb hW iX6 tyX6 tyX6_ok nmX6 hown hK hP25 hD25 hS25 0 rfl rfl 25 (by decide) (hW _ k_892) (fun _ h => h) rfl (by decide +kernel) rfl rfl (Nat.le_of_ble_eq_true rfl) dX6_step_120 (fun H26 locs26 hP hD hS26 => ?_)
            obtain ⟨v26_, e26, hm⟩ := ltd hm
            have hP26 : va_P D cls (wX6 q a v26_) H26 := by rw [e26]; exact hP
            have hD26 : va_D (va_A (wX6 q a v) s.heap.size) (wX6 q a v26_) := by rw [e26]; exact hD
            clear hP hD hP25 hD25 hS25
            refine lv_goto (tgt := 269) hx hb dX6_step_123 (by decide) ?_
            exact eWv (Wf := fun (uu : SV) => wX6 q a uu) (u := v26_) X hr hlocks hP26 hD26 hS26 hm dX6_step_269
          have hL84 : ∀ (n : Nat) (z84 : SV) (ρ84 : SV), lpO (m_X6_step_L84) n z84 = some ρ84 → (m_X6_step_K84) ρ84 = some res → ∀ (H : Heap) (locs : List Loc), va_P D cls (wX6 q a z84) H → va_D (va_A (wX6 q a v) s.heap.size) (wX6 q a z84) → va_S (va_A (wX6 q a v) s.heap.size) s.heap H locs → ∀ ls : Array Slot, lv_has ls 2 [(0, .ref (a 99))] → W p l e ((headSpec (mw yX6_step cX6_step 2 none) ({ frames := 1, cells := 0, slots := 0, locals := 25 } : Room)).room) s m [.ref (a 99)].toArray below meth c H locs 0 0 (MQ below (va_Qv (fun w => w = res) (bW D q (wX6 q a v) s.heap.size (fun (uu : SV) => wX6 q a uu)) (va_A (wX6 q a v) s.heap.size)) [.ref (a 99)].toArray s 0 0 (va_A (wX6 q a v) s.heap.size)) (F0 m 84 ls []) := by
            intro n
            induction n with
            | zero => intro _ _ h; cases h
            | succ n ih84 =>
              intro z84 ρ84 hz84 hK84 H23 locs23 hP23 hD23 hS23 ls22 hl22
              obtain ⟨t84, hm, hz84⟩ := bn hz84
              unfold m_X6_step_L84 at hm
              refine lv_aload_n hx hb dX6_step_84 rfl (lv_at hl22 0 rfl) ?_
              refine lv_aload_n hx hb dX6_step_85 rfl (lv_at hl22 0 rfl) ?_
              refine va_get (D := D) (ci := 6) (v := .int (z84 0 23)) (C := RX6) (T := TX6) (N := 40) hx hb hW iX6 hown hK hP23 0 rfl rfl 23 (by decide) (hW _ k_890) (fun _ h => h) rfl dX6_step_86 ?_
              obtain ⟨y89, hy89, hm⟩ := bn hm
              refine cVRi (As := [.int (z84 0 23)]) (rest := []) X hP23 hl22.1 (c_X6_byteAt l D q a z84 (z84 0 23) y89 hy89) [0, 1, 2, 3, 4, 5, 6, 7, 8, 9, 10, 11, 12, 13, 14, 15, 16, 17] rfl 0 rfl rfl rfl k_1012 mX6_byteAt ⟨rfl, rfl⟩ ⟨Nat.le_of_ble_eq_true rfl, Nat.le_of_ble_eq_true rfl⟩ rfl rfl (Nat.le_of_ble_eq_true rfl) dX6_step_89 ⟨Nat.zero_le _, Nat.zero_le _⟩ ?_
              refine lv_i2l hx hb dX6_step_92 rfl ?_
              refine lv_ldc2 (v := (97 : Int64)) hx hb hown (hW _ k_1016) dX6_step_93 ?_
              refine lv_ldc2 (v := (122 : Int64)) hx hb hown (hW _ k_1017) dX6_step_96 ?_
              obtain ⟨y99, hy99, hm⟩ := bn hm
              refine cSRi (As := [.long (y89.toInt64), .long (97 : Int64), .long (122 : Int64)]) (rest := []) X hP23 hl22.1 (c_X6_in l D q (y89.toInt64) (97 : Int64) (122 : Int64) y99 hy99) [] rfl k_993 mX6_in ⟨rfl, rfl⟩ ⟨Nat.le_of_ble_eq_true rfl, Nat.le_of_ble_eq_true rfl⟩ rfl rfl (Nat.le_of_ble_eq_true rfl) dX6_step_99 ⟨Nat.zero_le _, Nat.zero_le _⟩ ?_
              refine lv_if_eq (tgt := 118) hx hb dX6_step_102 (by decide) (fun c102 => ?_) (fun c102 => ?_)
              · replace hm := tp hm c102
                cases hm
                cases hz84
                exact hE84 z84 hK84 _ _ hP23 hD23 hS23 _ (lv_sub hl22 [0] rfl)
              · replace hm := tn hm c102
                refine lv_aload_n hx hb dX6_step_105 rfl (lv_at hl22 0 rfl) ?_
                refine lv_dup hx hb dX6_step_106 rfl ?_
                refine va_get (D := D) (ci := 6) (v := .int (z84 0 23)) (C := RX6) (T := TX6) (N := 40) hx hb hW iX6 hown hK hP23 0 rfl rfl 23 (by decide) (hW _ k_890) (fun _ h => h) rfl dX6_step_107 ?_
                refine lv_iconst (v := (1 : Int32)) hx hb dX6_step_110 (by decide) ?_
                refine lv_iadd hx hb dX6_step_111 ?_
                refine va_put (D := D) (ci := 6) (v := .int ((z84 0 23) + (1 : Int32))) (ty := .int) (C := RX6) (T := TX6) (N := 40) hx hb hW iX6 tyX6 tyX6_ok nmX6 hown hK hP23 hD23 hS23 0 rfl rfl 23 (by decide) (hW _ k_890) (fun _ h => h) rfl (by decide +kernel) rfl rfl (Nat.le_of_ble_eq_true rfl) dX6_step_112 (fun H27 locs27 hP hD hS27 => ?_)
                obtain ⟨v27_, e27, hm⟩ := ltd hm
                have hP27 : va_P D cls (wX6 q a v27_) H27 := by rw [e27]; exact hP
                have hD27 : va_D (va_A (wX6 q a v) s.heap.size) (wX6 q a v27_) := by rw [e27]; exact hD
                clear hP hD hP23 hD23 hS23
                refine lv_goto (tgt := 84) hx hb dX6_step_115 (by decide) ?_
                cases hm
                exact ih84 v27_ ρ84 hz84 hK84 _ _ hP27 hD27 hS27 _ (lv_sub hl22 [0] rfl)
          exact hL84 n84 v7_ r84 hn84 hm _ _ hP7 hD7 hS7 _ (lv_sub hl6 [1] rfl)
      · replace hm := tp hm c59
        refine lv_aload_n hx hb dX6_step_62 rfl (lv_at hl6 1 rfl) ?_
        refine lv_iconst (v := (0 : Int32)) hx hb dX6_step_63 (by decide) ?_
        refine va_put (D := D) (ci := 6) (v := .int (0 : Int32)) (ty := .int) (C := RX6) (T := TX6) (N := 40) hx hb hW iX6 tyX6 tyX6_ok nmX6 hown hK hP7 hD7 hS7 0 rfl rfl 25 (by decide) (hW _ k_892) (fun _ h => h) rfl (by decide +kernel) rfl rfl (Nat.le_of_ble_eq_true rfl) dX6_step_64 (fun H8 locs8 hP hD hS8 => ?_)
        obtain ⟨v8_, e8, hm⟩ := ltd hm
        have hP8 : va_P D cls (wX6 q a v8_) H8 := by rw [e8]; exact hP
        have hD8 : va_D (va_A (wX6 q a v) s.heap.size) (wX6 q a v8_) := by rw [e8]; exact hD
        clear hP hD hP7 hD7 hS7
        refine lv_goto (tgt := 269) hx hb dX6_step_67 (by decide) ?_
        exact eWv (Wf := fun (uu : SV) => wX6 q a uu) (u := v8_) X hr hlocks hP8 hD8 hS8 hm dX6_step_269
    have hL8 : ∀ (n : Nat) (z8 : SV) (ρ8 : SV), lpO (m_X6_step_L8) n z8 = some ρ8 → (m_X6_step_K8) ρ8 = some res → ∀ (H : Heap) (locs : List Loc), va_P D cls (wX6 q a z8) H → va_D (va_A (wX6 q a v) s.heap.size) (wX6 q a z8) → va_S (va_A (wX6 q a v) s.heap.size) s.heap H locs → ∀ ls : Array Slot, lv_has ls 2 [(0, .ref (a 99))] → W p l e ((headSpec (mw yX6_step cX6_step 2 none) ({ frames := 1, cells := 0, slots := 0, locals := 25 } : Room)).room) s m [.ref (a 99)].toArray below meth c H locs 0 0 (MQ below (va_Qv (fun w => w = res) (bW D q (wX6 q a v) s.heap.size (fun (uu : SV) => wX6 q a uu)) (va_A (wX6 q a v) s.heap.size)) [.ref (a 99)].toArray s 0 0 (va_A (wX6 q a v) s.heap.size)) (F0 m 8 ls []) := by
      intro n
      induction n with
      | zero => intro _ _ h; cases h
      | succ n ih8 =>
        intro z8 ρ8 hz8 hK8 H2 locs2 hP2 hD2 hS2 ls1 hl1
        obtain ⟨t8, hm, hz8⟩ := bn hz8
        unfold m_X6_step_L8 at hm
        refine lv_aload_n hx hb dX6_step_8 rfl (lv_at hl1 0 rfl) ?_
        refine lv_aload_n hx hb dX6_step_9 rfl (lv_at hl1 0 rfl) ?_
        refine va_get (D := D) (ci := 6) (v := .int (z8 0 23)) (C := RX6) (T := TX6) (N := 40) hx hb hW iX6 hown hK hP2 0 rfl rfl 23 (by decide) (hW _ k_890) (fun _ h => h) rfl dX6_step_10 ?_
        obtain ⟨y13, hy13, hm⟩ := bn hm
        refine cVRi (As := [.int (z8 0 23)]) (rest := []) X hP2 hl1.1 (c_X6_byteAt l D q a z8 (z8 0 23) y13 hy13) [0, 1, 2, 3, 4, 5, 6, 7, 8, 9, 10, 11, 12, 13, 14, 15, 16, 17] rfl 0 rfl rfl rfl k_1012 mX6_byteAt ⟨rfl, rfl⟩ ⟨Nat.le_of_ble_eq_true rfl, Nat.le_of_ble_eq_true rfl⟩ rfl rfl (Nat.le_of_ble_eq_true rfl) dX6_step_13 ⟨Nat.zero_le _, Nat.zero_le _⟩ ?_
        refine lv_bipush (v := (32 : Int32)) hx hb dX6_step_16 (by decide) ?_
        refine lv_icmp_ne (tgt := 34) hx hb dX6_step_18 (by decide) (fun c18 => ?_) (fun c18 => ?_)
        · replace hm := tn hm c18
          cases hm
          cases hz8
          exact hE8 z8 hK8 _ _ hP2 hD2 hS2 _ (lv_sub hl1 [0] rfl)
        · replace hm := tp hm c18
          refine lv_aload_n hx hb dX6_step_21 rfl (lv_at hl1 0 rfl) ?_
          refine lv_dup hx hb dX6_step_22 rfl ?_
          refine va_get (D := D) (ci := 6) (v := .int (z8 0 23)) (C := RX6) (T := TX6) (N := 40) hx hb hW iX6 hown hK hP2 0 rfl rfl 23 (by decide) (hW _ k_890) (fun _ h => h) rfl dX6_step_23 ?_
          refine lv_iconst (v := (1 : Int32)) hx hb dX6_step_26 (by decide) ?_
          refine lv_iadd hx hb dX6_step_27 ?_
          refine va_put (D := D) (ci := 6) (v := .int ((z8 0 23) + (1 : Int32))) (ty := .int) (C := RX6) (T := TX6) (N := 40) hx hb hW iX6 tyX6 tyX6_ok nmX6 hown hK hP2 hD2 hS2 0 rfl rfl 23 (by decide) (hW _ k_890) (fun _ h => h) rfl (by decide +kernel) rfl rfl (Nat.le_of_ble_eq_true rfl) dX6_step_28 (fun H28 locs28 hP hD hS28 => ?_)
          obtain ⟨v28_, e28, hm⟩ := ltd hm
          have hP28 : va_P D cls (wX6 q a v28_) H28 := by rw [e28]; exact hP
          have hD28 : va_D (va_A (wX6 q a v) s.heap.size) (wX6 q a v28_) := by rw [e28]; exact hD
          clear hP hD hP2 hD2 hS2
          refine lv_goto (tgt := 8) hx hb dX6_step_31 (by decide) ?_
          cases hm
          exact ih8 v28_ ρ8 hz8 hK8 _ _ hP28 hD28 hS28 _ (lv_sub hl1 [0] rfl)
    exact hL8 n8 v r8 hn8 hm _ _ hP0 hD0 hS0 _ (lv_sub hl0 [0] rfl)
  · replace hm := tn hm c4
    exact eWv (Wf := fun (uu : SV) => wX6 q a uu) (u := v) X hr hlocks hP0 hD0 hS0 hm dX6_step_7
noncomputable def m_X6_other_J47 (x1 : Int32) (x3 : Int32) (z47 : SV) : Option (Int32 × SV) :=
  (if (z47 0 21) = 0 then (if ((x3 >>> ((z47 0 26) &&& 31)) &&& (1 : Int32)) = (1 : Int32) then (m_X6_fails z47 (4 : Int32)).bind (fun y68 => (if (y68 0 21) = 0 then (m_X6_step y68).bind (fun y89 => some ((y68 0 26), y89)) else (m_X6_step y68).bind (fun y89 => some (x1, y89)))) else (if (z47 0 21) = 0 then (m_X6_step z47).bind (fun y89 => some ((z47 0 26), y89)) else (m_X6_step z47).bind (fun y89 => some (x1, y89)))) else (if (z47 0 21) = 0 then (m_X6_step z47).bind (fun y89 => some ((z47 0 26), y89)) else (m_X6_step z47).bind (fun y89 => some (x1, y89))))
noncomputable def m_X6_other_J20 (x1 : Int32) (x2 : Int32) (x3 : Int32) (z20 : SV) : Option (Int32 × SV) :=
  (if (z20 0 21) = 0 then (m_X6_in ((z20 0 26).toInt64) (x1.toInt64) (x2.toInt64)).bind (fun y36 => (if y36 = 0 then (m_X6_fails z20 (3 : Int32)).bind (fun y44 => m_X6_other_J47 x1 x3 y44) else m_X6_other_J47 x1 x3 z20)) else m_X6_other_J47 x1 x3 z20)
noncomputable def m_X6_other (v : SV) (x1 : Int32) (x2 : Int32) (x3 : Int32) : Option (Int32 × SV) :=
  (if (v 0 21) = 0 then (if (v 0 25) = (2 : Int32) then m_X6_other_J20 x1 x2 x3 v else (m_X6_fails v (2 : Int32)).bind (fun y17 => m_X6_other_J20 x1 x2 x3 y17)) else m_X6_other_J20 x1 x2 x3 v)
set_option maxHeartbeats 4000000 in
set_option maxRecDepth 100000 in
theorem c_X6_other (l : Launch) (D : va_G) (q : Nat → ClassId) (sz : Nat) (a : Nat → Nat) (v : SV) (x1 : Int32) (x2 : Int32) (x3 : Int32) (res : Int32 × SV) (hm : m_X6_other v x1 x2 x3 = some res) : Met l yX6_other (mw yX6_other cX6_other 5 (some .int)) ({ frames := 2, cells := 0, slots := 0, locals := 46 } : Room) (pcW D q (wX6 q a v) sz [.ref (a 99), .int x1, .int x2, .int x3]) (va_Qi (fun r w => r = res.1 ∧ w = res.2) (bW D q (wX6 q a v) sz (fun (uu : SV) => wX6 q a uu)) (va_A (wX6 q a v) sz)) 0 0 (va_A (wX6 q a v) sz) := by
  refine Met.ofW (cc := cX6_other) (maxL := 5) (ret := (some .int)) (by decide) rfl ?_
  intro p e s m args below meth c s₁ B hml hv
  obtain ⟨rfl, hsz, hP0, hK, hD0⟩ := hv
  have hx := B.exec
  have hb := B.bytes
  have hr := B.returns
  have hW := mw_ws (atoms_spec (ws := mw yX6_other cX6_other 5 (some .int)) B.pre)
  have hown : s.vm.findClass RX6 = some m.cls := findClass_of_methodNamed B.named
  have hlocks := B.notSynchronized
  have X : Cx p s m [.ref (a 99), .int x1, .int x2, .int x3].toArray c cX6_other 5 RX6 D q := ⟨hx, hb, hml, hown, hW, hK⟩
  subst hsz
  replace hD0 := hD0.self (sz := s.heap.size)
  have hS0 : va_S (va_A (wX6 q a v) s.heap.size) s.heap s.heap [] := va_S.rf
  have hl0 := lv_entry ([.ref (a 99), .int x1, .int x2, .int x3]) (n := 5) (Nat.le_of_ble_eq_true rfl)
  rw [lg_entry_eq]
  generalize (lg_sl ([.ref (a 99), .int x1, .int x2, .int x3]) ++ List.replicate (5 - (lg_sl ([.ref (a 99), .int x1, .int x2, .int x3])).length) Slot.unset).toArray = ls0 at hl0 ⊢
  have hl0 : lv_has ls0 5 [(0, .ref (a 99)), (1, .int x1), (2, .int x2), (3, .int x3)] := hl0
  unfold m_X6_other at hm
  refine lv_aload_n hx hb dX6_other_0 rfl (lv_at hl0 0 rfl) ?_
  refine va_get (D := D) (ci := 6) (v := .int (v 0 21)) (C := RX6) (T := TX6) (N := 40) hx hb hW iX6 hown hK hP0 0 rfl rfl 21 (by decide) (hW _ k_888) (fun _ h => h) rfl dX6_other_1 ?_
  have hJ20 : ∀ z20 : SV, m_X6_other_J20 x1 x2 x3 z20 = some res → ∀ (H : Heap) (locs : List Loc), va_P D cls (wX6 q a z20) H → va_D (va_A (wX6 q a v) s.heap.size) (wX6 q a z20) → va_S (va_A (wX6 q a v) s.heap.size) s.heap H locs → ∀ ls : Array Slot, lv_has ls 5 [(0, .ref (a 99)), (1, .int x1), (2, .int x2), (3, .int x3)] → W p l e ((headSpec (mw yX6_other cX6_other 5 (some .int)) ({ frames := 2, cells := 0, slots := 0, locals := 46 } : Room)).room) s m [.ref (a 99), .int x1, .int x2, .int x3].toArray below meth c H locs 0 0 (MQ below (va_Qi (fun r w => r = res.1 ∧ w = res.2) (bW D q (wX6 q a v) s.heap.size (fun (uu : SV) => wX6 q a uu)) (va_A (wX6 q a v) s.heap.size)) [.ref (a 99), .int x1, .int x2, .int x3].toArray s 0 0 (va_A (wX6 q a v) s.heap.size)) (F0 m 20 ls []) := by
    intro z20 hm H2 locs2 hP2 hD2 hS2 ls1 hl1
    unfold m_X6_other_J20 at hm
    refine lv_aload_n hx hb dX6_other_20 rfl (lv_at hl1 0 rfl) ?_
    refine va_get (D := D) (ci := 6) (v := .int (z20 0 21)) (C := RX6) (T := TX6) (N := 40) hx hb hW iX6 hown hK hP2 0 rfl rfl 21 (by decide) (hW _ k_888) (fun _ h => h) rfl dX6_other_21 ?_
    have hJ47 : ∀ z47 : SV, m_X6_other_J47 x1 x3 z47 = some res → ∀ (H : Heap) (locs : List Loc), va_P D cls (wX6 q a z47) H → va_D (va_A (wX6 q a v) s.heap.size) (wX6 q a z47) → va_S (va_A (wX6 q a v) s.heap.size) s.heap H locs → ∀ ls : Array Slot, lv_has ls 5 [(0, .ref (a 99)), (1, .int x1), (3, .int x3)] → W p l e ((headSpec (mw yX6_other cX6_other 5 (some .int)) ({ frames := 2, cells := 0, slots := 0, locals := 46 } : Room)).room) s m [.ref (a 99), .int x1, .int x2, .int x3].toArray below meth c H locs 0 0 (MQ below (va_Qi (fun r w => r = res.1 ∧ w = res.2) (bW D q (wX6 q a v) s.heap.size (fun (uu : SV) => wX6 q a uu)) (va_A (wX6 q a v) s.heap.size)) [.ref (a 99), .int x1, .int x2, .int x3].toArray s 0 0 (va_A (wX6 q a v) s.heap.size)) (F0 m 47 ls []) := by
      intro z47 hm H4 locs4 hP4 hD4 hS4 ls3 hl3
      unfold m_X6_other_J47 at hm
      refine lv_aload_n hx hb dX6_other_47 rfl (lv_at hl3 0 rfl) ?_
      refine va_get (D := D) (ci := 6) (v := .int (z47 0 21)) (C := RX6) (T := TX6) (N := 40) hx hb hW iX6 hown hK hP4 0 rfl rfl 21 (by decide) (hW _ k_888) (fun _ h => h) rfl dX6_other_48 ?_
      refine lv_if_ne (tgt := 71) hx hb dX6_other_51 (by decide) (fun c51 => ?_) (fun c51 => ?_)
      · replace hm := tn hm c51
        refine lv_aload_n hx hb dX6_other_71 rfl (lv_at hl3 0 rfl) ?_
        refine va_get (D := D) (ci := 6) (v := .int (z47 0 21)) (C := RX6) (T := TX6) (N := 40) hx hb hW iX6 hown hK hP4 0 rfl rfl 21 (by decide) (hW _ k_888) (fun _ h => h) rfl dX6_other_72 ?_
        refine lv_if_ne (tgt := 85) hx hb dX6_other_75 (by decide) (fun c75 => ?_) (fun c75 => ?_)
        · replace hm := tn hm c75
          refine lv_iload_n hx hb dX6_other_85 rfl (lv_at hl3 1 rfl) ?_
          refine lv_istore (lv' := [(4, .int x1), (0, .ref (a 99)), (1, .int x1), (3, .int x3)]) hx hb dX6_other_86 hl3 (by decide) rfl (fun ls16 hl16 => ?_)
          clear hl3
          refine lv_aload_n hx hb dX6_other_88 rfl (lv_at hl16 1 rfl) ?_
          obtain ⟨y89, hy89, hm⟩ := bn hm
          refine cVWv (As := []) (rest := []) (Wn := fun (uu : SV) => wX6 q a uu) X hP4 hD4 hS4 (fun _ h => Or.inr h) hl16.1 (c_X6_step l D q H4.size a z47 y89 hy89) [0, 1, 2, 3, 4, 5, 6, 7, 8, 9, 10, 11, 12, 13, 14, 15, 16, 17] [] [0, 1, 2, 3, 4, 5, 6, 7, 8, 9, 10, 11, 12, 13, 14, 15, 16, 17] rfl (Wr := []) rfl (by decide) (by decide) (by decide) (by decide) (fun _ => rfl) 0 rfl rfl rfl k_1008 mX6_step ⟨rfl, rfl⟩ ⟨Nat.le_of_ble_eq_true rfl, Nat.le_of_ble_eq_true rfl⟩ rfl rfl (Nat.le_of_ble_eq_true rfl) dX6_other_89 ⟨Nat.zero_le _, Nat.zero_le _⟩ (fun H17 locs17 hP hD hS17 => ?_)
          have hP17 : va_P D cls (wX6 q a y89) H17 := hP
          have hD17 : va_D (va_A (wX6 q a v) s.heap.size) (wX6 q a y89) := hD
          clear hP hD hP4 hD4 hS4
          refine lv_iload hx hb dX6_other_92 (lv_at hl16 0 rfl) ?_
          exact eWi (Wf := fun (uu : SV) => wX6 q a uu) (u := y89) X hr hlocks hP17 hD17 hS17 hm dX6_other_94
        · replace hm := tp hm c75
          refine lv_aload_n hx hb dX6_other_78 rfl (lv_at hl3 0 rfl) ?_
          refine va_get (D := D) (ci := 6) (v := .int (z47 0 26)) (C := RX6) (T := TX6) (N := 40) hx hb hW iX6 hown hK hP4 0 rfl rfl 26 (by decide) (hW _ k_893) (fun _ h => h) rfl dX6_other_79 ?_
          refine lv_goto (tgt := 86) hx hb dX6_other_82 (by decide) ?_
          refine lv_istore (lv' := [(4, .int (z47 0 26)), (0, .ref (a 99)), (1, .int x1), (3, .int x3)]) hx hb dX6_other_86 hl3 (by decide) rfl (fun ls14 hl14 => ?_)
          clear hl3
          refine lv_aload_n hx hb dX6_other_88 rfl (lv_at hl14 1 rfl) ?_
          obtain ⟨y89, hy89, hm⟩ := bn hm
          refine cVWv (As := []) (rest := []) (Wn := fun (uu : SV) => wX6 q a uu) X hP4 hD4 hS4 (fun _ h => Or.inr h) hl14.1 (c_X6_step l D q H4.size a z47 y89 hy89) [0, 1, 2, 3, 4, 5, 6, 7, 8, 9, 10, 11, 12, 13, 14, 15, 16, 17] [] [0, 1, 2, 3, 4, 5, 6, 7, 8, 9, 10, 11, 12, 13, 14, 15, 16, 17] rfl (Wr := []) rfl (by decide) (by decide) (by decide) (by decide) (fun _ => rfl) 0 rfl rfl rfl k_1008 mX6_step ⟨rfl, rfl⟩ ⟨Nat.le_of_ble_eq_true rfl, Nat.le_of_ble_eq_true rfl⟩ rfl rfl (Nat.le_of_ble_eq_true rfl) dX6_other_89 ⟨Nat.zero_le _, Nat.zero_le _⟩ (fun H15 locs15 hP hD hS15 => ?_)
          have hP15 : va_P D cls (wX6 q a y89) H15 := hP
          have hD15 : va_D (va_A (wX6 q a v) s.heap.size) (wX6 q a y89) := hD
          clear hP hD hP4 hD4 hS4
          refine lv_iload hx hb dX6_other_92 (lv_at hl14 0 rfl) ?_
          exact eWi (Wf := fun (uu : SV) => wX6 q a uu) (u := y89) X hr hlocks hP15 hD15 hS15 hm dX6_other_94
      · replace hm := tp hm c51
        refine lv_iload_n hx hb dX6_other_54 rfl (lv_at hl3 2 rfl) ?_
        refine lv_aload_n hx hb dX6_other_55 rfl (lv_at hl3 0 rfl) ?_
        refine va_get (D := D) (ci := 6) (v := .int (z47 0 26)) (C := RX6) (T := TX6) (N := 40) hx hb hW iX6 hown hK hP4 0 rfl rfl 26 (by decide) (hW _ k_893) (fun _ h => h) rfl dX6_other_56 ?_
        refine lv_ishr hx hb dX6_other_59 ?_
        refine lv_iconst (v := (1 : Int32)) hx hb dX6_other_60 (by decide) ?_
        refine lv_iand hx hb dX6_other_61 ?_
        refine lv_iconst (v := (1 : Int32)) hx hb dX6_other_62 (by decide) ?_
        refine lv_icmp_ne (tgt := 71) hx hb dX6_other_63 (by decide) (fun c63 => ?_) (fun c63 => ?_)
        · replace hm := tn hm c63
          refine lv_aload_n hx hb dX6_other_71 rfl (lv_at hl3 0 rfl) ?_
          refine va_get (D := D) (ci := 6) (v := .int (z47 0 21)) (C := RX6) (T := TX6) (N := 40) hx hb hW iX6 hown hK hP4 0 rfl rfl 21 (by decide) (hW _ k_888) (fun _ h => h) rfl dX6_other_72 ?_
          refine lv_if_ne (tgt := 85) hx hb dX6_other_75 (by decide) (fun c75 => ?_) (fun c75 => ?_)
          · replace hm := tn hm c75
            refine lv_iload_n hx hb dX6_other_85 rfl (lv_at hl3 1 rfl) ?_
            refine lv_istore (lv' := [(4, .int x1), (0, .ref (a 99)), (1, .int x1), (3, .int x3)]) hx hb dX6_other_86 hl3 (by decide) rfl (fun ls12 hl12 => ?_)
            clear hl3
            refine lv_aload_n hx hb dX6_other_88 rfl (lv_at hl12 1 rfl) ?_
            obtain ⟨y89, hy89, hm⟩ := bn hm
            refine cVWv (As := []) (rest := []) (Wn := fun (uu : SV) => wX6 q a uu) X hP4 hD4 hS4 (fun _ h => Or.inr h) hl12.1 (c_X6_step l D q H4.size a z47 y89 hy89) [0, 1, 2, 3, 4, 5, 6, 7, 8, 9, 10, 11, 12, 13, 14, 15, 16, 17] [] [0, 1, 2, 3, 4, 5, 6, 7, 8, 9, 10, 11, 12, 13, 14, 15, 16, 17] rfl (Wr := []) rfl (by decide) (by decide) (by decide) (by decide) (fun _ => rfl) 0 rfl rfl rfl k_1008 mX6_step ⟨rfl, rfl⟩ ⟨Nat.le_of_ble_eq_true rfl, Nat.le_of_ble_eq_true rfl⟩ rfl rfl (Nat.le_of_ble_eq_true rfl) dX6_other_89 ⟨Nat.zero_le _, Nat.zero_le _⟩ (fun H13 locs13 hP hD hS13 => ?_)
            have hP13 : va_P D cls (wX6 q a y89) H13 := hP
            have hD13 : va_D (va_A (wX6 q a v) s.heap.size) (wX6 q a y89) := hD
            clear hP hD hP4 hD4 hS4
            refine lv_iload hx hb dX6_other_92 (lv_at hl12 0 rfl) ?_
            exact eWi (Wf := fun (uu : SV) => wX6 q a uu) (u := y89) X hr hlocks hP13 hD13 hS13 hm dX6_other_94
          · replace hm := tp hm c75
            refine lv_aload_n hx hb dX6_other_78 rfl (lv_at hl3 0 rfl) ?_
            refine va_get (D := D) (ci := 6) (v := .int (z47 0 26)) (C := RX6) (T := TX6) (N := 40) hx hb hW iX6 hown hK hP4 0 rfl rfl 26 (by decide) (hW _ k_893) (fun _ h => h) rfl dX6_other_79 ?_
            refine lv_goto (tgt := 86) hx hb dX6_other_82 (by decide) ?_
            refine lv_istore (lv' := [(4, .int (z47 0 26)), (0, .ref (a 99)), (1, .int x1), (3, .int x3)]) hx hb dX6_other_86 hl3 (by decide) rfl (fun ls10 hl10 => ?_)
            clear hl3
            refine lv_aload_n hx hb dX6_other_88 rfl (lv_at hl10 1 rfl) ?_
            obtain ⟨y89, hy89, hm⟩ := bn hm
            refine cVWv (As := []) (rest := []) (Wn := fun (uu : SV) => wX6 q a uu) X hP4 hD4 hS4 (fun _ h => Or.inr h) hl10.1 (c_X6_step l D q H4.size a z47 y89 hy89) [0, 1, 2, 3, 4, 5, 6, 7, 8, 9, 10, 11, 12, 13, 14, 15, 16, 17] [] [0, 1, 2, 3, 4, 5, 6, 7, 8, 9, 10, 11, 12, 13, 14, 15, 16, 17] rfl (Wr := []) rfl (by decide) (by decide) (by decide) (by decide) (fun _ => rfl) 0 rfl rfl rfl k_1008 mX6_step ⟨rfl, rfl⟩ ⟨Nat.le_of_ble_eq_true rfl, Nat.le_of_ble_eq_true rfl⟩ rfl rfl (Nat.le_of_ble_eq_true rfl) dX6_other_89 ⟨Nat.zero_le _, Nat.zero_le _⟩ (fun H11 locs11 hP hD hS11 => ?_)
            have hP11 : va_P D cls (wX6 q a y89) H11 := hP
            have hD11 : va_D (va_A (wX6 q a v) s.heap.size) (wX6 q a y89) := hD
            clear hP hD hP4 hD4 hS4
            refine lv_iload hx hb dX6_other_92 (lv_at hl10 0 rfl) ?_
            exact eWi (Wf := fun (uu : SV) => wX6 q a uu) (u := y89) X hr hlocks hP11 hD11 hS11 hm dX6_other_94
        · replace hm := tp hm c63
          refine lv_aload_n hx hb dX6_other_66 rfl (lv_at hl3 0 rfl) ?_
          refine lv_iconst (v := (4 : Int32)) hx hb dX6_other_67 (by decide) ?_
          obtain ⟨y68, hy68, hm⟩ := bn hm
          refine cVWv (As := [.int (4 : Int32)]) (rest := []) (Wn := fun (uu : SV) => wX6 q a uu) X hP4 hD4 hS4 (fun _ h => Or.inr h) hl3.1 (c_X6_fails l D q H4.size a z47 (4 : Int32) y68 hy68) [0, 1, 2, 3, 4, 5, 6, 7, 8, 9, 10, 11, 12, 13, 14, 15, 16, 17] [] [0, 1, 2, 3, 4, 5, 6, 7, 8, 9, 10, 11, 12, 13, 14, 15, 16, 17] rfl (Wr := []) rfl (by decide) (by decide) (by decide) (by decide) (fun _ => rfl) 0 rfl rfl rfl k_1020 mX6_fails ⟨rfl, rfl⟩ ⟨Nat.le_of_ble_eq_true rfl, Nat.le_of_ble_eq_true rfl⟩ rfl rfl (Nat.le_of_ble_eq_true rfl) dX6_other_68 ⟨Nat.zero_le _, Nat.zero_le _⟩ (fun H5 locs5 hP hD hS5 => ?_)
          have hP5 : va_P D cls (wX6 q a y68) H5 := hP
          have hD5 : va_D (va_A (wX6 q a v) s.heap.size) (wX6 q a y68) := hD
          clear hP hD hP4 hD4 hS4
          refine lv_aload_n hx hb dX6_other_71 rfl (lv_at hl3 0 rfl) ?_
          refine va_get (D := D) (ci := 6) (v := .int (y68 0 21)) (C := RX6) (T := TX6) (N := 40) hx hb hW iX6 hown hK hP5 0 rfl rfl 21 (by decide) (hW _ k_888) (fun _ h => h) rfl dX6_other_72 ?_
          refine lv_if_ne (tgt := 85) hx hb dX6_other_75 (by decide) (fun c75 => ?_) (fun c75 => ?_)
          · replace hm := tn hm c75
            refine lv_iload_n hx hb dX6_other_85 rfl (lv_at hl3 1 rfl) ?_
            refine lv_istore (lv' := [(4, .int x1), (0, .ref (a 99)), (1, .int x1), (3, .int x3)]) hx hb dX6_other_86 hl3 (by decide) rfl (fun ls8 hl8 => ?_)
            clear hl3
            refine lv_aload_n hx hb dX6_other_88 rfl (lv_at hl8 1 rfl) ?_
            obtain ⟨y89, hy89, hm⟩ := bn hm
            refine cVWv (As := []) (rest := []) (Wn := fun (uu : SV) => wX6 q a uu) X hP5 hD5 hS5 (fun _ h => Or.inr h) hl8.1 (c_X6_step l D q H5.size a y68 y89 hy89) [0, 1, 2, 3, 4, 5, 6, 7, 8, 9, 10, 11, 12, 13, 14, 15, 16, 17] [] [0, 1, 2, 3, 4, 5, 6, 7, 8, 9, 10, 11, 12, 13, 14, 15, 16, 17] rfl (Wr := []) rfl (by decide) (by decide) (by decide) (by decide) (fun _ => rfl) 0 rfl rfl rfl k_1008 mX6_step ⟨rfl, rfl⟩ ⟨Nat.le_of_ble_eq_true rfl, Nat.le_of_ble_eq_true rfl⟩ rfl rfl (Nat.le_of_ble_eq_true rfl) dX6_other_89 ⟨Nat.zero_le _, Nat.zero_le _⟩ (fun H9 locs9 hP hD hS9 => ?_)
            have hP9 : va_P D cls (wX6 q a y89) H9 := hP
            have hD9 : va_D (va_A (wX6 q a v) s.heap.size) (wX6 q a y89) := hD
            clear hP hD hP5 hD5 hS5
            refine lv_iload hx hb dX6_other_92 (lv_at hl8 0 rfl) ?_
            exact eWi (Wf := fun (uu : SV) => wX6 q a uu) (u := y89) X hr hlocks hP9 hD9 hS9 hm dX6_other_94
          · replace hm := tp hm c75
            refine lv_aload_n hx hb dX6_other_78 rfl (lv_at hl3 0 rfl) ?_
            refine va_get (D := D) (ci := 6) (v := .int (y68 0 26)) (C := RX6) (T := TX6) (N := 40) hx hb hW iX6 hown hK hP5 0 rfl rfl 26 (by decide) (hW _ k_893) (fun _ h => h) rfl dX6_other_79 ?_
            refine lv_goto (tgt := 86) hx hb dX6_other_82 (by decide) ?_
            refine lv_istore (lv' := [(4, .int (y68 0 26)), (0, .ref (a 99)), (1, .int x1), (3, .int x3)]) hx hb dX6_other_86 hl3 (by decide) rfl (fun ls6 hl6 => ?_)
            clear hl3
            refine lv_aload_n hx hb dX6_other_88 rfl (lv_at hl6 1 rfl) ?_
            obtain ⟨y89, hy89, hm⟩ := bn hm
            refine cVWv (As := []) (rest := []) (Wn := fun (uu : SV) => wX6 q a uu) X hP5 hD5 hS5 (fun _ h => Or.inr h) hl6.1 (c_X6_step l D q H5.size a y68 y89 hy89) [0, 1, 2, 3, 4, 5, 6, 7, 8, 9, 10, 11, 12, 13, 14, 15, 16, 17] [] [0, 1, 2, 3, 4, 5, 6, 7, 8, 9, 10, 11, 12, 13, 14, 15, 16, 17] rfl (Wr := []) rfl (by decide) (by decide) (by decide) (by decide) (fun _ => rfl) 0 rfl rfl rfl k_1008 mX6_step ⟨rfl, rfl⟩ ⟨Nat.le_of_ble_eq_true rfl, Nat.le_of_ble_eq_true rfl⟩ rfl rfl (Nat.le_of_ble_eq_true rfl) dX6_other_89 ⟨Nat.zero_le _, Nat.zero_le _⟩ (fun H7 locs7 hP hD hS7 => ?_)
            have hP7 : va_P D cls (wX6 q a y89) H7 := hP
            have hD7 : va_D (va_A (wX6 q a v) s.heap.size) (wX6 q a y89) := hD
            clear hP hD hP5 hD5 hS5
            refine lv_iload hx hb dX6_other_92 (lv_at hl6 0 rfl) ?_
            exact eWi (Wf := fun (uu : SV) => wX6 q a uu) (u := y89) X hr hlocks hP7 hD7 hS7 hm dX6_other_94
    refine lv_if_ne (tgt := 47) hx hb dX6_other_24 (by decide) (fun c24 => ?_) (fun c24 => ?_)
    · replace hm := tn hm c24
      exact hJ47 z20 hm _ _ hP2 hD2 hS2 _ (lv_sub hl1 [0, 1, 3] rfl)
    · replace hm := tp hm c24
      refine lv_aload_n hx hb dX6_other_27 rfl (lv_at hl1 0 rfl) ?_
      refine va_get (D := D) (ci := 6) (v := .int (z20 0 26)) (C := RX6) (T := TX6) (N := 40) hx hb hW iX6 hown hK hP2 0 rfl rfl 26 (by decide) (hW _ k_893) (fun _ h => h) rfl dX6_other_28 ?_
      refine lv_i2l hx hb dX6_other_31 rfl ?_
      refine lv_iload_n hx hb dX6_other_32 rfl (lv_at hl1 1 rfl) ?_
      refine lv_i2l hx hb dX6_other_33 rfl ?_
      refine lv_iload_n hx hb dX6_other_34 rfl (lv_at hl1 2 rfl) ?_
      refine lv_i2l hx hb dX6_other_35 rfl ?_
      obtain ⟨y36, hy36, hm⟩ := bn hm
      refine cSRi (As := [.long ((z20 0 26).toInt64), .long (x1.toInt64), .long (x2.toInt64)]) (rest := []) X hP2 hl1.1 (c_X6_in l D q ((z20 0 26).toInt64) (x1.toInt64) (x2.toInt64) y36 hy36) [] rfl k_993 mX6_in ⟨rfl, rfl⟩ ⟨Nat.le_of_ble_eq_true rfl, Nat.le_of_ble_eq_true rfl⟩ rfl rfl (Nat.le_of_ble_eq_true rfl) dX6_other_36 ⟨Nat.zero_le _, Nat.zero_le _⟩ ?_
      refine lv_if_ne (tgt := 47) hx hb dX6_other_39 (by decide) (fun c39 => ?_) (fun c39 => ?_)
      · replace hm := tn hm c39
        exact hJ47 z20 hm _ _ hP2 hD2 hS2 _ (lv_sub hl1 [0, 1, 3] rfl)
      · replace hm := tp hm c39
        refine lv_aload_n hx hb dX6_other_42 rfl (lv_at hl1 0 rfl) ?_
        refine lv_iconst (v := (3 : Int32)) hx hb dX6_other_43 (by decide) ?_
        obtain ⟨y44, hy44, hm⟩ := bn hm
        refine cVWv (As := [.int (3 : Int32)]) (rest := []) (Wn := fun (uu : SV) => wX6 q a uu) X hP2 hD2 hS2 (fun _ h => Or.inr h) hl1.1 (c_X6_fails l D q H2.size a z20 (3 : Int32) y44 hy44) [0, 1, 2, 3, 4, 5, 6, 7, 8, 9, 10, 11, 12, 13, 14, 15, 16, 17] [] [0, 1, 2, 3, 4, 5, 6, 7, 8, 9, 10, 11, 12, 13, 14, 15, 16, 17] rfl (Wr := []) rfl (by decide) (by decide) (by decide) (by decide) (fun _ => rfl) 0 rfl rfl rfl k_1020 mX6_fails ⟨rfl, rfl⟩ ⟨Nat.le_of_ble_eq_true rfl, Nat.le_of_ble_eq_true rfl⟩ rfl rfl (Nat.le_of_ble_eq_true rfl) dX6_other_44 ⟨Nat.zero_le _, Nat.zero_le _⟩ (fun H18 locs18 hP hD hS18 => ?_)
        have hP18 : va_P D cls (wX6 q a y44) H18 := hP
        have hD18 : va_D (va_A (wX6 q a v) s.heap.size) (wX6 q a y44) := hD
        clear hP hD hP2 hD2 hS2
        exact hJ47 y44 hm _ _ hP18 hD18 hS18 _ (lv_sub hl1 [0, 1, 3] rfl)
  refine lv_if_ne (tgt := 20) hx hb dX6_other_4 (by decide) (fun c4 => ?_) (fun c4 => ?_)
  · replace hm := tn hm c4
    exact hJ20 v hm _ _ hP0 hD0 hS0 _ (lv_sub hl0 [0, 1, 2, 3] rfl)
  · replace hm := tp hm c4
    refine lv_aload_n hx hb dX6_other_7 rfl (lv_at hl0 0 rfl) ?_
    refine va_get (D := D) (ci := 6) (v := .int (v 0 25)) (C := RX6) (T := TX6) (N := 40) hx hb hW iX6 hown hK hP0 0 rfl rfl 25 (by decide) (hW _ k_892) (fun _ h => h) rfl dX6_other_8 ?_
    refine lv_iconst (v := (2 : Int32)) hx hb dX6_other_11 (by decide) ?_
    refine lv_icmp_eq (tgt := 20) hx hb dX6_other_12 (by decide) (fun c12 => ?_) (fun c12 => ?_)
    · replace hm := tp hm c12
      exact hJ20 v hm _ _ hP0 hD0 hS0 _ (lv_sub hl0 [0, 1, 2, 3] rfl)
    · replace hm := tn hm c12
      refine lv_aload_n hx hb dX6_other_15 rfl (lv_at hl0 0 rfl) ?_
      refine lv_iconst (v := (2 : Int32)) hx hb dX6_other_16 (by decide) ?_
      obtain ⟨y17, hy17, hm⟩ := bn hm
      refine cVWv (As := [.int (2 : Int32)]) (rest := []) (Wn := fun (uu : SV) => wX6 q a uu) X hP0 hD0 hS0 (fun _ h => Or.inr h) hl0.1 (c_X6_fails l D q s.heap.size a v (2 : Int32) y17 hy17) [0, 1, 2, 3, 4, 5, 6, 7, 8, 9, 10, 11, 12, 13, 14, 15, 16, 17] [] [0, 1, 2, 3, 4, 5, 6, 7, 8, 9, 10, 11, 12, 13, 14, 15, 16, 17] rfl (Wr := []) rfl (by decide) (by decide) (by decide) (by decide) (fun _ => rfl) 0 rfl rfl rfl k_1020 mX6_fails ⟨rfl, rfl⟩ ⟨Nat.le_of_ble_eq_true rfl, Nat.le_of_ble_eq_true rfl⟩ rfl rfl (Nat.le_of_ble_eq_true rfl) dX6_other_17 ⟨Nat.zero_le _, Nat.zero_le _⟩ (fun H19 locs19 hP hD hS19 => ?_)
      have hP19 : va_P D cls (wX6 q a y17) H19 := hP
      have hD19 : va_D (va_A (wX6 q a v) s.heap.size) (wX6 q a y17) := hD
      clear hP hD hP0 hD0 hS0
      exact hJ20 y17 hm _ _ hP19 hD19 hS19 _ (lv_sub hl0 [0, 1, 2, 3] rfl)
noncomputable def m_X6_partHere (v : SV) (x1 : Int32) : Option (Int32 × SV) :=
  (m_X6_other v (0 : Int32) (5 : Int32) x1).bind (fun y4 => (if y4.1 ≤ (y4.2 0 16) then lett (up2 y4.2 0 16 (y4.2 0 16)) (fun v3_ => some (y4.1, v3_)) else lett (up2 y4.2 0 16 y4.1) (fun v4_ => some (y4.1, v4_))))
set_option maxHeartbeats 4000000 in
set_option maxRecDepth 100000 in
theorem c_X6_partHere (l : Launch) (D : va_G) (q : Nat → ClassId) (sz : Nat) (a : Nat → Nat) (v : SV) (x1 : Int32) (res : Int32 × SV) (hm : m_X6_partHere v x1 = some res) : Met l yX6_partHere (mw yX6_partHere cX6_partHere 3 (some .int)) ({ frames := 3, cells := 0, slots := 0, locals := 70 } : Room) (pcW D q (wX6 q a v) sz [.ref (a 99), .int x1]) (va_Qi (fun r w => r = res.1 ∧ w = res.2) (bW D q (wX6 q a v) sz (fun (uu : SV) => wX6 q a uu)) (va_A (wX6 q a v) sz)) 0 0 (va_A (wX6 q a v) sz) := by
  refine Met.ofW (cc := cX6_partHere) (maxL := 3) (ret := (some .int)) (by decide) rfl ?_
  intro p e s m args below meth c s₁ B hml hv
  obtain ⟨rfl, hsz, hP0, hK, hD0⟩ := hv
  have hx := B.exec
  have hb := B.bytes
  have hr := B.returns
  have hW := mw_ws (atoms_spec (ws := mw yX6_partHere cX6_partHere 3 (some .int)) B.pre)
  have hown : s.vm.findClass RX6 = some m.cls := findClass_of_methodNamed B.named
  have hlocks := B.notSynchronized
  have X : Cx p s m [.ref (a 99), .int x1].toArray c cX6_partHere 3 RX6 D q := ⟨hx, hb, hml, hown, hW, hK⟩
  subst hsz
  replace hD0 := hD0.self (sz := s.heap.size)
  have hS0 : va_S (va_A (wX6 q a v) s.heap.size) s.heap s.heap [] := va_S.rf
  have hl0 := lv_entry ([.ref (a 99), .int x1]) (n := 3) (Nat.le_of_ble_eq_true rfl)
  rw [lg_entry_eq]
  generalize (lg_sl ([.ref (a 99), .int x1]) ++ List.replicate (3 - (lg_sl ([.ref (a 99), .int x1])).length) Slot.unset).toArray = ls0 at hl0 ⊢
  have hl0 : lv_has ls0 3 [(0, .ref (a 99)), (1, .int x1)] := hl0
  unfold m_X6_partHere at hm
  refine lv_aload_n hx hb dX6_partHere_0 rfl (lv_at hl0 0 rfl) ?_
  refine lv_iconst (v := (0 : Int32)) hx hb dX6_partHere_1 (by decide) ?_
  refine lv_iconst (v := (5 : Int32)) hx hb dX6_partHere_2 (by decide) ?_
  refine lv_iload_n hx hb dX6_partHere_3 rfl (lv_at hl0 1 rfl) ?_
  obtain ⟨y4, hy4, hm⟩ := bn hm
  refine cVWi (As := [.int (0 : Int32), .int (5 : Int32), .int x1]) (rest := []) (Wn := fun (uu : SV) => wX6 q a uu) X hP0 hD0 hS0 (fun _ h => Or.inr h) hl0.1 (c_X6_other l D q s.heap.size a v (0 : Int32) (5 : Int32) x1 y4 hy4) [0, 1, 2, 3, 4, 5, 6, 7, 8, 9, 10, 11, 12, 13, 14, 15, 16, 17] [] [0, 1, 2, 3, 4, 5, 6, 7, 8, 9, 10, 11, 12, 13, 14, 15, 16, 17] rfl (Wr := []) rfl (by decide) (by decide) (by decide) (by decide) (fun _ => rfl) 0 rfl rfl rfl k_1037 mX6_other ⟨rfl, rfl⟩ ⟨Nat.le_of_ble_eq_true rfl, Nat.le_of_ble_eq_true rfl⟩ rfl rfl (Nat.le_of_ble_eq_true rfl) dX6_partHere_4 ⟨Nat.zero_le _, Nat.zero_le _⟩ (fun H1 locs1 hP hD hS1 => ?_)
  have hP1 : va_P D cls (wX6 q a y4.2) H1 := hP
  have hD1 : va_D (va_A (wX6 q a v) s.heap.size) (wX6 q a y4.2) := hD
  clear hP hD hP0 hD0 hS0
  refine lv_istore_n (lv' := [(2, .int y4.1), (0, .ref (a 99)), (1, .int x1)]) hx hb dX6_partHere_7 rfl hl0 (by decide) rfl (fun ls2 hl2 => ?_)
  clear hl0
  refine lv_aload_n hx hb dX6_partHere_8 rfl (lv_at hl2 1 rfl) ?_
  refine lv_iload_n hx hb dX6_partHere_9 rfl (lv_at hl2 0 rfl) ?_
  refine lv_aload_n hx hb dX6_partHere_10 rfl (lv_at hl2 1 rfl) ?_
  refine va_get (D := D) (ci := 6) (v := .int (y4.2 0 16)) (C := RX6) (T := TX6) (N := 40) hx hb hW iX6 hown hK hP1 0 rfl rfl 16 (by decide) (hW _ k_883) (fun _ h => h) rfl dX6_partHere_11 ?_
  refine lv_icmp_le (tgt := 21) hx hb dX6_partHere_14 (by decide) (fun c14 => ?_) (fun c14 => ?_)
  · replace hm := tp hm c14
    refine lv_aload_n hx hb dX6_partHere_21 rfl (lv_at hl2 1 rfl) ?_
    refine va_get (D := D) (ci := 6) (v := .int (y4.2 0 16)) (C := RX6) (T := TX6) (N := 40) hx hb hW iX6 hown hK hP1 0 rfl rfl 16 (by decide) (hW _ k_883) (fun _ h => h) rfl dX6_partHere_22 ?_
    refine va_put (D := D) (ci := 6) (v := .int (y4.2 0 16)) (ty := .int) (C := RX6) (T := TX6) (N := 40) hx hb hW iX6 tyX6 tyX6_ok nmX6 hown hK hP1 hD1 hS1 0 rfl rfl 16 (by decide) (hW _ k_883) (fun _ h => h) rfl (by decide +kernel) rfl rfl (Nat.le_of_ble_eq_true rfl) dX6_partHere_25 (fun H3 locs3 hP hD hS3 => ?_)
    obtain ⟨v3_, e3, hm⟩ := ltd hm
    have hP3 : va_P D cls (wX6 q a v3_) H3 := by rw [e3]; exact hP
    have hD3 : va_D (va_A (wX6 q a v) s.heap.size) (wX6 q a v3_) := by rw [e3]; exact hD
    clear hP hD hP1 hD1 hS1
    refine lv_iload_n hx hb dX6_partHere_28 rfl (lv_at hl2 0 rfl) ?_
    exact eWi (Wf := fun (uu : SV) => wX6 q a uu) (u := v3_) X hr hlocks hP3 hD3 hS3 hm dX6_partHere_29
  · replace hm := tn hm c14
    refine lv_iload_n hx hb dX6_partHere_17 rfl (lv_at hl2 0 rfl) ?_
    refine lv_goto (tgt := 25) hx hb dX6_partHere_18 (by decide) ?_
    refine va_put (D := D) (ci := 6) (v := .int y4.1) (ty := .int) (C := RX6) (T := TX6) (N := 40) hx hb hW iX6 tyX6 tyX6_ok nmX6 hown hK hP1 hD1 hS1 0 rfl rfl 16 (by decide) (hW _ k_883) (fun _ h => h) rfl (by decide +kernel) rfl rfl (Nat.le_of_ble_eq_true rfl) dX6_partHere_25 (fun H4 locs4 hP hD hS4 => ?_)
    obtain ⟨v4_, e4, hm⟩ := ltd hm
    have hP4 : va_P D cls (wX6 q a v4_) H4 := by rw [e4]; exact hP
    have hD4 : va_D (va_A (wX6 q a v) s.heap.size) (wX6 q a v4_) := by rw [e4]; exact hD
    clear hP hD hP1 hD1 hS1
    refine lv_iload_n hx hb dX6_partHere_28 rfl (lv_at hl2 0 rfl) ?_
    exact eWi (Wf := fun (uu : SV) => wX6 q a uu) (u := v4_) X hr hlocks hP4 hD4 hS4 hm dX6_partHere_29
noncomputable def m_X6_sitterHere (v : SV) (x1 : Int32) : Option (Int32 × SV) :=
  (m_X6_other v (0 : Int32) (4 : Int32) x1).bind (fun y4 => (if y4.1 ≤ (y4.2 0 17) then lett (up2 y4.2 0 17 (y4.2 0 17)) (fun v3_ => some (y4.1, v3_)) else lett (up2 y4.2 0 17 y4.1) (fun v4_ => some (y4.1, v4_))))
set_option maxHeartbeats 4000000 in
set_option maxRecDepth 100000 in
theorem c_X6_sitterHere (l : Launch) (D : va_G) (q : Nat → ClassId) (sz : Nat) (a : Nat → Nat) (v : SV) (x1 : Int32) (res : Int32 × SV) (hm : m_X6_sitterHere v x1 = some res) : Met l yX6_sitterHere (mw yX6_sitterHere cX6_sitterHere 3 (some .int)) ({ frames := 3, cells := 0, slots := 0, locals := 70 } : Room) (pcW D q (wX6 q a v) sz [.ref (a 99), .int x1]) (va_Qi (fun r w => r = res.1 ∧ w = res.2) (bW D q (wX6 q a v) sz (fun (uu : SV) => wX6 q a uu)) (va_A (wX6 q a v) sz)) 0 0 (va_A (wX6 q a v) sz) := by
  refine Met.ofW (cc := cX6_sitterHere) (maxL := 3) (ret := (some .int)) (by decide) rfl ?_
  intro p e s m args below meth c s₁ B hml hv
  obtain ⟨rfl, hsz, hP0, hK, hD0⟩ := hv
  have hx := B.exec
  have hb := B.bytes
  have hr := B.returns
  have hW := mw_ws (atoms_spec (ws := mw yX6_sitterHere cX6_sitterHere 3 (some .int)) B.pre)
  have hown : s.vm.findClass RX6 = some m.cls := findClass_of_methodNamed B.named
  have hlocks := B.notSynchronized
  have X : Cx p s m [.ref (a 99), .int x1].toArray c cX6_sitterHere 3 RX6 D q := ⟨hx, hb, hml, hown, hW, hK⟩
  subst hsz
  replace hD0 := hD0.self (sz := s.heap.size)
  have hS0 : va_S (va_A (wX6 q a v) s.heap.size) s.heap s.heap [] := va_S.rf
  have hl0 := lv_entry ([.ref (a 99), .int x1]) (n := 3) (Nat.le_of_ble_eq_true rfl)
  rw [lg_entry_eq]
  generalize (lg_sl ([.ref (a 99), .int x1]) ++ List.replicate (3 - (lg_sl ([.ref (a 99), .int x1])).length) Slot.unset).toArray = ls0 at hl0 ⊢
  have hl0 : lv_has ls0 3 [(0, .ref (a 99)), (1, .int x1)] := hl0
  unfold m_X6_sitterHere at hm
  refine lv_aload_n hx hb dX6_sitterHere_0 rfl (lv_at hl0 0 rfl) ?_
  refine lv_iconst (v := (0 : Int32)) hx hb dX6_sitterHere_1 (by decide) ?_
  refine lv_iconst (v := (4 : Int32)) hx hb dX6_sitterHere_2 (by decide) ?_
  refine lv_iload_n hx hb dX6_sitterHere_3 rfl (lv_at hl0 1 rfl) ?_
  obtain ⟨y4, hy4, hm⟩ := bn hm
  refine cVWi (As := [.int (0 : Int32), .int (4 : Int32), .int x1]) (rest := []) (Wn := fun (uu : SV) => wX6 q a uu) X hP0 hD0 hS0 (fun _ h => Or.inr h) hl0.1 (c_X6_other l D q s.heap.size a v (0 : Int32) (4 : Int32) x1 y4 hy4) [0, 1, 2, 3, 4, 5, 6, 7, 8, 9, 10, 11, 12, 13, 14, 15, 16, 17] [] [0, 1, 2, 3, 4, 5, 6, 7, 8, 9, 10, 11, 12, 13, 14, 15, 16, 17] rfl (Wr := []) rfl (by decide) (by decide) (by decide) (by decide) (fun _ => rfl) 0 rfl rfl rfl k_1037 mX6_other ⟨rfl, rfl⟩ ⟨Nat.le_of_ble_eq_true rfl, Nat.le_of_ble_eq_true rfl⟩ rfl rfl (Nat.le_of_ble_eq_true rfl) dX6_sitterHere_4 ⟨Nat.zero_le _, Nat.zero_le _⟩ (fun H1 locs1 hP hD hS1 => ?_)
  have hP1 : va_P D cls (wX6 q a y4.2) H1 := hP
  have hD1 : va_D (va_A (wX6 q a v) s.heap.size) (wX6 q a y4.2) := hD
  clear hP hD hP0 hD0 hS0
  refine lv_istore_n (lv' := [(2, .int y4.1), (0, .ref (a 99)), (1, .int x1)]) hx hb dX6_sitterHere_7 rfl hl0 (by decide) rfl (fun ls2 hl2 => ?_)
  clear hl0
  refine lv_aload_n hx hb dX6_sitterHere_8 rfl (lv_at hl2 1 rfl) ?_
  refine lv_iload_n hx hb dX6_sitterHere_9 rfl (lv_at hl2 0 rfl) ?_
  refine lv_aload_n hx hb dX6_sitterHere_10 rfl (lv_at hl2 1 rfl) ?_
  refine va_get (D := D) (ci := 6) (v := .int (y4.2 0 17)) (C := RX6) (T := TX6) (N := 40) hx hb hW iX6 hown hK hP1 0 rfl rfl 17 (by decide) (hW _ k_884) (fun _ h => h) rfl dX6_sitterHere_11 ?_
  refine lv_icmp_le (tgt := 21) hx hb dX6_sitterHere_14 (by decide) (fun c14 => ?_) (fun c14 => ?_)
  · replace hm := tp hm c14
    refine lv_aload_n hx hb dX6_sitterHere_21 rfl (lv_at hl2 1 rfl) ?_
    refine va_get (D := D) (ci := 6) (v := .int (y4.2 0 17)) (C := RX6) (T := TX6) (N := 40) hx hb hW iX6 hown hK hP1 0 rfl rfl 17 (by decide) (hW _ k_884) (fun _ h => h) rfl dX6_sitterHere_22 ?_
    refine va_put (D := D) (ci := 6) (v := .int (y4.2 0 17)) (ty := .int) (C := RX6) (T := TX6) (N := 40) hx hb hW iX6 tyX6 tyX6_ok nmX6 hown hK hP1 hD1 hS1 0 rfl rfl 17 (by decide) (hW _ k_884) (fun _ h => h) rfl (by decide +kernel) rfl rfl (Nat.le_of_ble_eq_true rfl) dX6_sitterHere_25 (fun H3 locs3 hP hD hS3 => ?_)
    obtain ⟨v3_, e3, hm⟩ := ltd hm
    have hP3 : va_P D cls (wX6 q a v3_) H3 := by rw [e3]; exact hP
    have hD3 : va_D (va_A (wX6 q a v) s.heap.size) (wX6 q a v3_) := by rw [e3]; exact hD
    clear hP hD hP1 hD1 hS1
    refine lv_iload_n hx hb dX6_sitterHere_28 rfl (lv_at hl2 0 rfl) ?_
    exact eWi (Wf := fun (uu : SV) => wX6 q a uu) (u := v3_) X hr hlocks hP3 hD3 hS3 hm dX6_sitterHere_29
  · replace hm := tn hm c14
    refine lv_iload_n hx hb dX6_sitterHere_17 rfl (lv_at hl2 0 rfl) ?_
    refine lv_goto (tgt := 25) hx hb dX6_sitterHere_18 (by decide) ?_
    refine va_put (D := D) (ci := 6) (v := .int y4.1) (ty := .int) (C := RX6) (T := TX6) (N := 40) hx hb hW iX6 tyX6 tyX6_ok nmX6 hown hK hP1 hD1 hS1 0 rfl rfl 17 (by decide) (hW _ k_884) (fun _ h => h) rfl (by decide +kernel) rfl rfl (Nat.le_of_ble_eq_true rfl) dX6_sitterHere_25 (fun H4 locs4 hP hD hS4 => ?_)
    obtain ⟨v4_, e4, hm⟩ := ltd hm
    have hP4 : va_P D cls (wX6 q a v4_) H4 := by rw [e4]; exact hP
    have hD4 : va_D (va_A (wX6 q a v) s.heap.size) (wX6 q a v4_) := by rw [e4]; exact hD
    clear hP hD hP1 hD1 hS1
    refine lv_iload_n hx hb dX6_sitterHere_28 rfl (lv_at hl2 0 rfl) ?_
    exact eWi (Wf := fun (uu : SV) => wX6 q a uu) (u := v4_) X hr hlocks hP4 hD4 hS4 hm dX6_sitterHere_29
noncomputable def m_X6_readSitter_K54 (z54 : Int32 × SV) : Option (SV) :=
  ck (inB ((51 : Int32) + (z54.2 0 11)) 63) (lett (up2 z54.2 7 ((((51 : Int32) + (z54.2 0 11))).toNatClampNeg) z54.1) (fun v15_ => lett (up2 v15_ 0 11 ((v15_ 0 11) + (1 : Int32))) (fun v16_ => some v16_)))
noncomputable def m_X6_readSitter_L54 (z54 : Int32 × SV) : Option ((Int32 × SV) ⊕ (Int32 × SV)) :=
  (if (z54.2 0 21) = 0 then (if (z54.2 0 25) = (2 : Int32) then (m_X6_other z54.2 (0 : Int32) (6 : Int32) z54.1).bind (fun y76 => some (.inl ((z54.1 ||| ((1 : Int32) <<< (y76.1 &&& 31))), y76.2))) else some (.inr (z54.1, z54.2))) else some (.inr (z54.1, z54.2)))
noncomputable def m_X6_readSitter (v : SV) (x1 : Int32) : Option (SV) :=
  ck (inB ((36 : Int32) + (v 0 11)) 63) (lett (up2 v 7 ((((36 : Int32) + (v 0 11))).toNatClampNeg) x1) (fun v2_ => (m_X6_other v2_ (0 : Int32) (5 : Int32) (0 : Int32)).bind (fun y28 => ck (inB ((41 : Int32) + (v2_ 0 11)) 63) (lett (up2 y28.2 7 ((((41 : Int32) + (v2_ 0 11))).toNatClampNeg) y28.1) (fun v5_ => (m_X6_other v5_ (0 : Int32) (9 : Int32) (0 : Int32)).bind (fun y48 => ck (inB ((46 : Int32) + (v5_ 0 11)) 63) (lett (up2 y48.2 7 ((((46 : Int32) + (v5_ 0 11))).toNatClampNeg) y48.1) (fun v8_ => (lpC (m_X6_readSitter_L54) ((0 : Int32), v8_)).bind (m_X6_readSitter_K54)))))))))
set_option maxHeartbeats 4000000 in
set_option maxRecDepth 100000 in
theorem c_X6_readSitter (l : Launch) (D : va_G) (q : Nat → ClassId) (sz : Nat) (a : Nat → Nat) (v : SV) (x1 : Int32) (res : SV) (hm : m_X6_readSitter v x1 = some res) : Met l yX6_readSitter (mw yX6_readSitter cX6_readSitter 3 none) ({ frames := 3, cells := 0, slots := 0, locals := 70 } : Room) (pcW D q (wX6 q a v) sz [.ref (a 99), .int x1]) (va_Qv (fun w => w = res) (bW D q (wX6 q a v) sz (fun (uu : SV) => wX6 q a uu)) (va_A (wX6 q a v) sz)) 0 0 (va_A (wX6 q a v) sz) := by
  refine Met.ofW (cc := cX6_readSitter) (maxL := 3) (ret := none) (by decide) rfl ?_
  intro p e s m args below meth c s₁ B hml hv
  obtain ⟨rfl, hsz, hP0, hK, hD0⟩ := hv
  have hx := B.exec
  have hb := B.bytes
  have hr := B.returns
  have hW := mw_ws (atoms_spec (ws := mw yX6_readSitter cX6_readSitter 3 none) B.pre)
  have hown : s.vm.findClass RX6 = some m.cls := findClass_of_methodNamed B.named
  have hlocks := B.notSynchronized
  have X : Cx p s m [.ref (a 99), .int x1].toArray c cX6_readSitter 3 RX6 D q := ⟨hx, hb, hml, hown, hW, hK⟩
  subst hsz
  replace hD0 := hD0.self (sz := s.heap.size)
  have hS0 : va_S (va_A (wX6 q a v) s.heap.size) s.heap s.heap [] := va_S.rf
  have hl0 := lv_entry ([.ref (a 99), .int x1]) (n := 3) (Nat.le_of_ble_eq_true rfl)
  rw [lg_entry_eq]
  generalize (lg_sl ([.ref (a 99), .int x1]) ++ List.replicate (3 - (lg_sl ([.ref (a 99), .int x1])).length) Slot.unset).toArray = ls0 at hl0 ⊢
  have hl0 : lv_has ls0 3 [(0, .ref (a 99)), (1, .int x1)] := hl0
  unfold m_X6_readSitter at hm
  refine lv_aload_n hx hb dX6_readSitter_0 rfl (lv_at hl0 0 rfl) ?_
  refine va_get (D := D) (ci := 6) (v := .ref (a 7)) (C := RX6) (T := TX6) (N := 40) hx hb hW iX6 hown hK hP0 0 rfl rfl 7 (by decide) (hW _ k_874) (fun _ h => h) rfl dX6_readSitter_1 ?_
  refine lv_bipush (v := (36 : Int32)) hx hb dX6_readSitter_4 (by decide) ?_
  refine lv_aload_n hx hb dX6_readSitter_6 rfl (lv_at hl0 0 rfl) ?_
  refine va_get (D := D) (ci := 6) (v := .int (v 0 11)) (C := RX6) (T := TX6) (N := 40) hx hb hW iX6 hown hK hP0 0 rfl rfl 11 (by decide) (hW _ k_878) (fun _ h => h) rfl dX6_readSitter_7 ?_
  refine lv_iadd hx hb dX6_readSitter_10 ?_
  refine lv_iload_n hx hb dX6_readSitter_11 rfl (lv_at hl0 1 rfl) ?_
  obtain ⟨h1, hm⟩ := ckd hm
  refine va_iast (f := (v 7)) hx hb hK hP0 hD0 hS0 4 0 rfl rfl (inB_vp h1) dX6_readSitter_12 (fun H2 locs2 hP hD hS2 => ?_)
  obtain ⟨v2_, e2, hm⟩ := ltd hm
  have hP2 : va_P D cls (wX6 q a v2_) H2 := by rw [e2]; exact hP
  have hD2 : va_D (va_A (wX6 q a v) s.heap.size) (wX6 q a v2_) := by rw [e2]; exact hD
  clear hP hD hP0 hD0 hS0
  refine lv_aload_n hx hb dX6_readSitter_13 rfl (lv_at hl0 0 rfl) ?_
  refine va_get (D := D) (ci := 6) (v := .ref (a 7)) (C := RX6) (T := TX6) (N := 40) hx hb hW iX6 hown hK hP2 0 rfl rfl 7 (by decide) (hW _ k_874) (fun _ h => h) rfl dX6_readSitter_14 ?_
  refine lv_bipush (v := (41 : Int32)) hx hb dX6_readSitter_17 (by decide) ?_
  refine lv_aload_n hx hb dX6_readSitter_19 rfl (lv_at hl0 0 rfl) ?_
  refine va_get (D := D) (ci := 6) (v := .int (v2_ 0 11)) (C := RX6) (T := TX6) (N := 40) hx hb hW iX6 hown hK hP2 0 rfl rfl 11 (by decide) (hW _ k_878) (fun _ h => h) rfl dX6_readSitter_20 ?_
  refine lv_iadd hx hb dX6_readSitter_23 ?_
  refine lv_aload_n hx hb dX6_readSitter_24 rfl (lv_at hl0 0 rfl) ?_
  refine lv_iconst (v := (0 : Int32)) hx hb dX6_readSitter_25 (by decide) ?_
  refine lv_iconst (v := (5 : Int32)) hx hb dX6_readSitter_26 (by decide) ?_
  refine lv_iconst (v := (0 : Int32)) hx hb dX6_readSitter_27 (by decide) ?_
  obtain ⟨y28, hy28, hm⟩ := bn hm
  refine cVWi (As := [.int (0 : Int32), .int (5 : Int32), .int (0 : Int32)]) (rest := [.int ((41 : Int32) + (v2_ 0 11)), .ref (a 7)]) (Wn := fun (uu : SV) => wX6 q a uu) X hP2 hD2 hS2 (fun _ h => Or.inr h) hl0.1 (c_X6_other l D q H2.size a v2_ (0 : Int32) (5 : Int32) (0 : Int32) y28 hy28) [0, 1, 2, 3, 4, 5, 6, 7, 8, 9, 10, 11, 12, 13, 14, 15, 16, 17] [] [0, 1, 2, 3, 4, 5, 6, 7, 8, 9, 10, 11, 12, 13, 14, 15, 16, 17] rfl (Wr := []) rfl (by decide) (by decide) (by decide) (by decide) (fun _ => rfl) 0 rfl rfl rfl k_1037 mX6_other ⟨rfl, rfl⟩ ⟨Nat.le_of_ble_eq_true rfl, Nat.le_of_ble_eq_true rfl⟩ rfl rfl (Nat.le_of_ble_eq_true rfl) dX6_readSitter_28 ⟨Nat.zero_le _, Nat.zero_le _⟩ (fun H3 locs3 hP hD hS3 => ?_)
  have hP3 : va_P D cls (wX6 q a y28.2) H3 := hP
  have hD3 : va_D (va_A (wX6 q a v) s.heap.size) (wX6 q a y28.2) := hD
  clear hP hD hP2 hD2 hS2
  obtain ⟨h4, hm⟩ := ckd hm
  refine va_iast (f := (y28.2 7)) hx hb hK hP3 hD3 hS3 4 0 rfl rfl (inB_vp h4) dX6_readSitter_31 (fun H5 locs5 hP hD hS5 => ?_)
  obtain ⟨v5_, e5, hm⟩ := ltd hm
  have hP5 : va_P D cls (wX6 q a v5_) H5 := by rw [e5]; exact hP
  have hD5 : va_D (va_A (wX6 q a v) s.heap.size) (wX6 q a v5_) := by rw [e5]; exact hD
  clear hP hD hP3 hD3 hS3
  refine lv_aload_n hx hb dX6_readSitter_32 rfl (lv_at hl0 0 rfl) ?_
  refine va_get (D := D) (ci := 6) (v := .ref (a 7)) (C := RX6) (T := TX6) (N := 40) hx hb hW iX6 hown hK hP5 0 rfl rfl 7 (by decide) (hW _ k_874) (fun _ h => h) rfl dX6_readSitter_33 ?_
  refine lv_bipush (v := (46 : Int32)) hx hb dX6_readSitter_36 (by decide) ?_
  refine lv_aload_n hx hb dX6_readSitter_38 rfl (lv_at hl0 0 rfl) ?_
  refine va_get (D := D) (ci := 6) (v := .int (v5_ 0 11)) (C := RX6) (T := TX6) (N := 40) hx hb hW iX6 hown hK hP5 0 rfl rfl 11 (by decide) (hW _ k_878) (fun _ h => h) rfl dX6_readSitter_39 ?_
  refine lv_iadd hx hb dX6_readSitter_42 ?_
  refine lv_aload_n hx hb dX6_readSitter_43 rfl (lv_at hl0 0 rfl) ?_
  refine lv_iconst (v := (0 : Int32)) hx hb dX6_readSitter_44 (by decide) ?_
  refine lv_bipush (v := (9 : Int32)) hx hb dX6_readSitter_45 (by decide) ?_
  refine lv_iconst (v := (0 : Int32)) hx hb dX6_readSitter_47 (by decide) ?_
  obtain ⟨y48, hy48, hm⟩ := bn hm
  refine cVWi (As := [.int (0 : Int32), .int (9 : Int32), .int (0 : Int32)]) (rest := [.int ((46 : Int32) + (v5_ 0 11)), .ref (a 7)]) (Wn := fun (uu : SV) => wX6 q a uu) X hP5 hD5 hS5 (fun _ h => Or.inr h) hl0.1 (c_X6_other l D q H5.size a v5_ (0 : Int32) (9 : Int32) (0 : Int32) y48 hy48) [0, 1, 2, 3, 4, 5, 6, 7, 8, 9, 10, 11, 12, 13, 14, 15, 16, 17] [] [0, 1, 2, 3, 4, 5, 6, 7, 8, 9, 10, 11, 12, 13, 14, 15, 16, 17] rfl (Wr := []) rfl (by decide) (by decide) (by decide) (by decide) (fun _ => rfl) 0 rfl rfl rfl k_1037 mX6_other ⟨rfl, rfl⟩ ⟨Nat.le_of_ble_eq_true rfl, Nat.le_of_ble_eq_true rfl⟩ rfl rfl (Nat.le_of_ble_eq_true rfl) dX6_readSitter_48 ⟨Nat.zero_le _, Nat.zero_le _⟩ (fun H6 locs6 hP hD hS6 => ?_)
  have hP6 : va_P D cls (wX6 q a y48.2) H6 := hP
  have hD6 : va_D (va_A (wX6 q a v) s.heap.size) (wX6 q a y48.2) := hD
  clear hP hD hP5 hD5 hS5
  obtain ⟨h7, hm⟩ := ckd hm
  refine va_iast (f := (y48.2 7)) hx hb hK hP6 hD6 hS6 4 0 rfl rfl (inB_vp h7) dX6_readSitter_51 (fun H8 locs8 hP hD hS8 => ?_)
  obtain ⟨v8_, e8, hm⟩ := ltd hm
  have hP8 : va_P D cls (wX6 q a v8_) H8 := by rw [e8]; exact hP
  have hD8 : va_D (va_A (wX6 q a v) s.heap.size) (wX6 q a v8_) := by rw [e8]; exact hD
  clear hP hD hP6 hD6 hS6
  refine lv_iconst (v := (0 : Int32)) hx hb dX6_readSitter_52 (by decide) ?_
  refine lv_istore_n (lv' := [(2, .int (0 : Int32)), (0, .ref (a 99)), (1, .int x1)]) hx hb dX6_readSitter_53 rfl hl0 (by decide) rfl (fun ls9 hl9 => ?_)
  clear hl0
  obtain ⟨r54, hr54, hm⟩ := bn hm
  obtain ⟨n54, hn54⟩ := lpC_ex hr54
  have hE54 : ∀ z54 : Int32 × SV, m_X6_readSitter_K54 z54 = some res → ∀ (H : Heap) (locs : List Loc), va_P D cls (wX6 q a z54.2) H → va_D (va_A (wX6 q a v) s.heap.size) (wX6 q a z54.2) → va_S (va_A (wX6 q a v) s.heap.size) s.heap H locs → ∀ ls : Array Slot, lv_has ls 3 [(0, .ref (a 99)), (2, .int z54.1)] → W p l e ((headSpec (mw yX6_readSitter cX6_readSitter 3 none) ({ frames := 3, cells := 0, slots := 0, locals := 70 } : Room)).room) s m [.ref (a 99), .int x1].toArray below meth c H locs 0 0 (MQ below (va_Qv (fun w => w = res) (bW D q (wX6 q a v) s.heap.size (fun (uu : SV) => wX6 q a uu)) (va_A (wX6 q a v) s.heap.size)) [.ref (a 99), .int x1].toArray s 0 0 (va_A (wX6 q a v) s.heap.size)) (F0 m 85 ls []) := by
    intro z54 hm H13 locs13 hP13 hD13 hS13 ls12 hl12
    unfold m_X6_readSitter_K54 at hm
    refine lv_aload_n hx hb dX6_readSitter_85 rfl (lv_at hl12 0 rfl) ?_
    refine va_get (D := D) (ci := 6) (v := .ref (a 7)) (C := RX6) (T := TX6) (N := 40) hx hb hW iX6 hown hK hP13 0 rfl rfl 7 (by decide) (hW _ k_874) (fun _ h => h) rfl dX6_readSitter_86 ?_
    refine lv_bipush (v := (51 : Int32)) hx hb dX6_readSitter_89 (by decide) ?_
    refine lv_aload_n hx hb dX6_readSitter_91 rfl (lv_at hl12 0 rfl) ?_
    refine va_get (D := D) (ci := 6) (v := .int (z54.2 0 11)) (C := RX6) (T := TX6) (N := 40) hx hb hW iX6 hown hK hP13 0 rfl rfl 11 (by decide) (hW _ k_878) (fun _ h => h) rfl dX6_readSitter_92 ?_
    refine lv_iadd hx hb dX6_readSitter_95 ?_
    refine lv_iload_n hx hb dX6_readSitter_96 rfl (lv_at hl12 1 rfl) ?_
    obtain ⟨h14, hm⟩ := ckd hm
    refine va_iast (f := (z54.2 7)) hx hb hK hP13 hD13 hS13 4 0 rfl rfl (inB_vp h14) dX6_readSitter_97 (fun H15 locs15 hP hD hS15 => ?_)
    obtain ⟨v15_, e15, hm⟩ := ltd hm
    have hP15 : va_P D cls (wX6 q a v15_) H15 := by rw [e15]; exact hP
    have hD15 : va_D (va_A (wX6 q a v) s.heap.size) (wX6 q a v15_) := by rw [e15]; exact hD
    clear hP hD hP13 hD13 hS13
    refine lv_aload_n hx hb dX6_readSitter_98 rfl (lv_at hl12 0 rfl) ?_
    refine lv_dup hx hb dX6_readSitter_99 rfl ?_
    refine va_get (D := D) (ci := 6) (v := .int (v15_ 0 11)) (C := RX6) (T := TX6) (N := 40) hx hb hW iX6 hown hK hP15 0 rfl rfl 11 (by decide) (hW _ k_878) (fun _ h => h) rfl dX6_readSitter_100 ?_
    refine lv_iconst (v := (1 : Int32)) hx hb dX6_readSitter_103 (by decide) ?_
    refine lv_iadd hx hb dX6_readSitter_104 ?_
    refine va_put (D := D) (ci := 6) (v := .int ((v15_ 0 11) + (1 : Int32))) (ty := .int) (C := RX6) (T := TX6) (N := 40) hx hb hW iX6 tyX6 tyX6_ok nmX6 hown hK hP15 hD15 hS15 0 rfl rfl 11 (by decide) (hW _ k_878) (fun _ h => h) rfl (by decide +kernel) rfl rfl (Nat.le_of_ble_eq_true rfl) dX6_readSitter_105 (fun H16 locs16 hP hD hS16 => ?_)
    obtain ⟨v16_, e16, hm⟩ := ltd hm
    have hP16 : va_P D cls (wX6 q a v16_) H16 := by rw [e16]; exact hP
    have hD16 : va_D (va_A (wX6 q a v) s.heap.size) (wX6 q a v16_) := by rw [e16]; exact hD
    clear hP hD hP15 hD15 hS15
    exact eWv (Wf := fun (uu : SV) => wX6 q a uu) (u := v16_) X hr hlocks hP16 hD16 hS16 hm dX6_readSitter_108
  have hL54 : ∀ (n : Nat) (z54 : Int32 × SV) (ρ54 : Int32 × SV), lpO (m_X6_readSitter_L54) n z54 = some ρ54 → (m_X6_readSitter_K54) ρ54 = some res → ∀ (H : Heap) (locs : List Loc), va_P D cls (wX6 q a z54.2) H → va_D (va_A (wX6 q a v) s.heap.size) (wX6 q a z54.2) → va_S (va_A (wX6 q a v) s.heap.size) s.heap H locs → ∀ ls : Array Slot, lv_has ls 3 [(0, .ref (a 99)), (2, .int z54.1)] → W p l e ((headSpec (mw yX6_readSitter cX6_readSitter 3 none) ({ frames := 3, cells := 0, slots := 0, locals := 70 } : Room)).room) s m [.ref (a 99), .int x1].toArray below meth c H locs 0 0 (MQ below (va_Qv (fun w => w = res) (bW D q (wX6 q a v) s.heap.size (fun (uu : SV) => wX6 q a uu)) (va_A (wX6 q a v) s.heap.size)) [.ref (a 99), .int x1].toArray s 0 0 (va_A (wX6 q a v) s.heap.size)) (F0 m 54 ls []) := by
    intro n
    induction n with
    | zero => intro _ _ h; cases h
    | succ n ih54 =>
      intro z54 ρ54 hz54 hK54 H11 locs11 hP11 hD11 hS11 ls10 hl10
      obtain ⟨t54, hm, hz54⟩ := bn hz54
      unfold m_X6_readSitter_L54 at hm
      refine lv_aload_n hx hb dX6_readSitter_54 rfl (lv_at hl10 0 rfl) ?_
      refine va_get (D := D) (ci := 6) (v := .int (z54.2 0 21)) (C := RX6) (T := TX6) (N := 40) hx hb hW iX6 hown hK hP11 0 rfl rfl 21 (by decide) (hW _ k_888) (fun _ h => h) rfl dX6_readSitter_55 ?_
      refine lv_if_ne (tgt := 85) hx hb dX6_readSitter_58 (by decide) (fun c58 => ?_) (fun c58 => ?_)
      · replace hm := tn hm c58
        cases hm
        cases hz54
        exact hE54 (z54.1, z54.2) hK54 _ _ hP11 hD11 hS11 _ (lv_sub hl10 [0, 1] rfl)
      · replace hm := tp hm c58
        refine lv_aload_n hx hb dX6_readSitter_61 rfl (lv_at hl10 0 rfl) ?_
        refine va_get (D := D) (ci := 6) (v := .int (z54.2 0 25)) (C := RX6) (T := TX6) (N := 40) hx hb hW iX6 hown hK hP11 0 rfl rfl 25 (by decide) (hW _ k_892) (fun _ h => h) rfl dX6_readSitter_62 ?_
        refine lv_iconst (v := (2 : Int32)) hx hb dX6_readSitter_65 (by decide) ?_
        refine lv_icmp_ne (tgt := 85) hx hb dX6_readSitter_66 (by decide) (fun c66 => ?_) (fun c66 => ?_)
        · replace hm := tn hm c66
          cases hm
          cases hz54
          exact hE54 (z54.1, z54.2) hK54 _ _ hP11 hD11 hS11 _ (lv_sub hl10 [0, 1] rfl)
        · replace hm := tp hm c66
          refine lv_iload_n hx hb dX6_readSitter_69 rfl (lv_at hl10 1 rfl) ?_
          refine lv_iconst (v := (1 : Int32)) hx hb dX6_readSitter_70 (by decide) ?_
          refine lv_aload_n hx hb dX6_readSitter_71 rfl (lv_at hl10 0 rfl) ?_
          refine lv_iconst (v := (0 : Int32)) hx hb dX6_readSitter_72 (by decide) ?_
          refine lv_bipush (v := (6 : Int32)) hx hb dX6_readSitter_73 (by decide) ?_
          refine lv_iload_n hx hb dX6_readSitter_75 rfl (lv_at hl10 1 rfl) ?_
          obtain ⟨y76, hy76, hm⟩ := bn hm
          refine cVWi (As := [.int (0 : Int32), .int (6 : Int32), .int z54.1]) (rest := [.int (1 : Int32), .int z54.1]) (Wn := fun (uu : SV) => wX6 q a uu) X hP11 hD11 hS11 (fun _ h => Or.inr h) hl10.1 (c_X6_other l D q H11.size a z54.2 (0 : Int32) (6 : Int32) z54.1 y76 hy76) [0, 1, 2, 3, 4, 5, 6, 7, 8, 9, 10, 11, 12, 13, 14, 15, 16, 17] [] [0, 1, 2, 3, 4, 5, 6, 7, 8, 9, 10, 11, 12, 13, 14, 15, 16, 17] rfl (Wr := []) rfl (by decide) (by decide) (by decide) (by decide) (fun _ => rfl) 0 rfl rfl rfl k_1037 mX6_other ⟨rfl, rfl⟩ ⟨Nat.le_of_ble_eq_true rfl, Nat.le_of_ble_eq_true rfl⟩ rfl rfl (Nat.le_of_ble_eq_true rfl) dX6_readSitter_76 ⟨Nat.zero_le _, Nat.zero_le _⟩ (fun H17 locs17 hP hD hS17 => ?_)
          have hP17 : va_P D cls (wX6 q a y76.2) H17 := hP
          have hD17 : va_D (va_A (wX6 q a v) s.heap.size) (wX6 q a y76.2) := hD
          clear hP hD hP11 hD11 hS11
          refine lv_ishl hx hb dX6_readSitter_79 ?_
          refine lv_ior hx hb dX6_readSitter_80 ?_
          refine lv_istore_n (lv' := [(2, .int (z54.1 ||| ((1 : Int32) <<< (y76.1 &&& 31)))), (0, .ref (a 99))]) hx hb dX6_readSitter_81 rfl hl10 (by decide) rfl (fun ls18 hl18 => ?_)
          clear hl10
          refine lv_goto (tgt := 54) hx hb dX6_readSitter_82 (by decide) ?_
          cases hm
          exact ih54 ((z54.1 ||| ((1 : Int32) <<< (y76.1 &&& 31))), y76.2) ρ54 hz54 hK54 _ _ hP17 hD17 hS17 _ (lv_sub hl18 [1, 0] rfl)
  exact hL54 n54 ((0 : Int32), v8_) r54 hn54 hm _ _ hP8 hD8 hS8 _ (lv_sub hl9 [1, 0] rfl)
noncomputable def m_X6_readBond_J34 (y2 : Int32 × SV) (z34 : SV) : Option (SV) :=
  ck (inB ((2 : Int32) * (z34 0 12)) 10) (lett (up2 z34 8 ((((2 : Int32) * (z34 0 12))).toNatClampNeg) y2.1) (fun v6_ => (m_X6_partHere v6_ (0 : Int32)).bind (fun y60 => ck (inB (((2 : Int32) * (v6_ 0 12)) + (1 : Int32)) 10) (lett (up2 y60.2 8 (((((2 : Int32) * (v6_ 0 12)) + (1 : Int32))).toNatClampNeg) y60.1) (fun v9_ => lett (up2 v9_ 0 12 ((v9_ 0 12) + (1 : Int32))) (fun v10_ => some v10_))))))
noncomputable def m_X6_readBond (v : SV) : Option (SV) :=
  (m_X6_partHere v (0 : Int32)).bind (fun y2 => (if (y2.2 0 21) = 0 then (if (y2.2 0 25) = (2 : Int32) then (if (y2.2 0 26) = y2.1 then (m_X6_fails y2.2 (3 : Int32)).bind (fun y31 => m_X6_readBond_J34 y2 y31) else m_X6_readBond_J34 y2 y2.2) else m_X6_readBond_J34 y2 y2.2) else m_X6_readBond_J34 y2 y2.2))
set_option maxHeartbeats 4000000 in
set_option maxRecDepth 100000 in
theorem c_X6_readBond (l : Launch) (D : va_G) (q : Nat → ClassId) (sz : Nat) (a : Nat → Nat) (v : SV) (res : SV) (hm : m_X6_readBond v = some res) : Met l yX6_readBond (mw yX6_readBond cX6_readBond 2 none) ({ frames := 4, cells := 0, slots := 0, locals := 92 } : Room) (pcW D q (wX6 q a v) sz [.ref (a 99)]) (va_Qv (fun w => w = res) (bW D q (wX6 q a v) sz (fun (uu : SV) => wX6 q a uu)) (va_A (wX6 q a v) sz)) 0 0 (va_A (wX6 q a v) sz) := by
  refine Met.ofW (cc := cX6_readBond) (maxL := 2) (ret := none) (by decide) rfl ?_
  intro p e s m args below meth c s₁ B hml hv
  obtain ⟨rfl, hsz, hP0, hK, hD0⟩ := hv
  have hx := B.exec
  have hb := B.bytes
  have hr := B.returns
  have hW := mw_ws (atoms_spec (ws := mw yX6_readBond cX6_readBond 2 none) B.pre)
  have hown : s.vm.findClass RX6 = some m.cls := findClass_of_methodNamed B.named
  have hlocks := B.notSynchronized
  have X : Cx p s m [.ref (a 99)].toArray c cX6_readBond 2 RX6 D q := ⟨hx, hb, hml, hown, hW, hK⟩
  subst hsz
  replace hD0 := hD0.self (sz := s.heap.size)
  have hS0 : va_S (va_A (wX6 q a v) s.heap.size) s.heap s.heap [] := va_S.rf
  have hl0 := lv_entry ([.ref (a 99)]) (n := 2) (Nat.le_of_ble_eq_true rfl)
  rw [lg_entry_eq]
  generalize (lg_sl ([.ref (a 99)]) ++ List.replicate (2 - (lg_sl ([.ref (a 99)])).length) Slot.unset).toArray = ls0 at hl0 ⊢
  have hl0 : lv_has ls0 2 [(0, .ref (a 99))] := hl0
  unfold m_X6_readBond at hm
  refine lv_aload_n hx hb dX6_readBond_0 rfl (lv_at hl0 0 rfl) ?_
  refine lv_iconst (v := (0 : Int32)) hx hb dX6_readBond_1 (by decide) ?_
  obtain ⟨y2, hy2, hm⟩ := bn hm
  refine cVWi (As := [.int (0 : Int32)]) (rest := []) (Wn := fun (uu : SV) => wX6 q a uu) X hP0 hD0 hS0 (fun _ h => Or.inr h) hl0.1 (c_X6_partHere l D q s.heap.size a v (0 : Int32) y2 hy2) [0, 1, 2, 3, 4, 5, 6, 7, 8, 9, 10, 11, 12, 13, 14, 15, 16, 17] [] [0, 1, 2, 3, 4, 5, 6, 7, 8, 9, 10, 11, 12, 13, 14, 15, 16, 17] rfl (Wr := []) rfl (by decide) (by decide) (by decide) (by decide) (fun _ => rfl) 0 rfl rfl rfl k_1045 mX6_partHere ⟨rfl, rfl⟩ ⟨Nat.le_of_ble_eq_true rfl, Nat.le_of_ble_eq_true rfl⟩ rfl rfl (Nat.le_of_ble_eq_true rfl) dX6_readBond_2 ⟨Nat.zero_le _, Nat.zero_le _⟩ (fun H1 locs1 hP hD hS1 => ?_)
  have hP1 : va_P D cls (wX6 q a y2.2) H1 := hP
  have hD1 : va_D (va_A (wX6 q a v) s.heap.size) (wX6 q a y2.2) := hD
  clear hP hD hP0 hD0 hS0
  refine lv_istore_n (lv' := [(1, .int y2.1), (0, .ref (a 99))]) hx hb dX6_readBond_5 rfl hl0 (by decide) rfl (fun ls2 hl2 => ?_)
  clear hl0
  refine lv_aload_n hx hb dX6_readBond_6 rfl (lv_at hl2 1 rfl) ?_
  refine va_get (D := D) (ci := 6) (v := .int (y2.2 0 21)) (C := RX6) (T := TX6) (N := 40) hx hb hW iX6 hown hK hP1 0 rfl rfl 21 (by decide) (hW _ k_888) (fun _ h => h) rfl dX6_readBond_7 ?_
  have hJ34 : ∀ z34 : SV, m_X6_readBond_J34 y2 z34 = some res → ∀ (H : Heap) (locs : List Loc), va_P D cls (wX6 q a z34) H → va_D (va_A (wX6 q a v) s.heap.size) (wX6 q a z34) → va_S (va_A (wX6 q a v) s.heap.size) s.heap H locs → ∀ ls : Array Slot, lv_has ls 2 [(1, .int y2.1), (0, .ref (a 99))] → W p l e ((headSpec (mw yX6_readBond cX6_readBond 2 none) ({ frames := 4, cells := 0, slots := 0, locals := 92 } : Room)).room) s m [.ref (a 99)].toArray below meth c H locs 0 0 (MQ below (va_Qv (fun w => w = res) (bW D q (wX6 q a v) s.heap.size (fun (uu : SV) => wX6 q a uu)) (va_A (wX6 q a v) s.heap.size)) [.ref (a 99)].toArray s 0 0 (va_A (wX6 q a v) s.heap.size)) (F0 m 34 ls []) := by
    intro z34 hm H4 locs4 hP4 hD4 hS4 ls3 hl3
    unfold m_X6_readBond_J34 at hm
    refine lv_aload_n hx hb dX6_readBond_34 rfl (lv_at hl3 1 rfl) ?_
    refine va_get (D := D) (ci := 6) (v := .ref (a 8)) (C := RX6) (T := TX6) (N := 40) hx hb hW iX6 hown hK hP4 0 rfl rfl 8 (by decide) (hW _ k_875) (fun _ h => h) rfl dX6_readBond_35 ?_
    refine lv_iconst (v := (2 : Int32)) hx hb dX6_readBond_38 (by decide) ?_
    refine lv_aload_n hx hb dX6_readBond_39 rfl (lv_at hl3 1 rfl) ?_
    refine va_get (D := D) (ci := 6) (v := .int (z34 0 12)) (C := RX6) (T := TX6) (N := 40) hx hb hW iX6 hown hK hP4 0 rfl rfl 12 (by decide) (hW _ k_879) (fun _ h => h) rfl dX6_readBond_40 ?_
    refine lv_imul hx hb dX6_readBond_43 ?_
    refine lv_iload_n hx hb dX6_readBond_44 rfl (lv_at hl3 0 rfl) ?_
    obtain ⟨h5, hm⟩ := ckd hm
    refine va_iast (f := (z34 8)) hx hb hK hP4 hD4 hS4 5 0 rfl rfl (inB_vp h5) dX6_readBond_45 (fun H6 locs6 hP hD hS6 => ?_)
    obtain ⟨v6_, e6, hm⟩ := ltd hm
    have hP6 : va_P D cls (wX6 q a v6_) H6 := by rw [e6]; exact hP
    have hD6 : va_D (va_A (wX6 q a v) s.heap.size) (wX6 q a v6_) := by rw [e6]; exact hD
    clear hP hD hP4 hD4 hS4
    refine lv_aload_n hx hb dX6_readBond_46 rfl (lv_at hl3 1 rfl) ?_
    refine va_get (D := D) (ci := 6) (v := .ref (a 8)) (C := RX6) (T := TX6) (N := 40) hx hb hW iX6 hown hK hP6 0 rfl rfl 8 (by decide) (hW _ k_875) (fun _ h => h) rfl dX6_readBond_47 ?_
    refine lv_iconst (v := (2 : Int32)) hx hb dX6_readBond_50 (by decide) ?_
    refine lv_aload_n hx hb dX6_readBond_51 rfl (lv_at hl3 1 rfl) ?_
    refine va_get (D := D) (ci := 6) (v := .int (v6_ 0 12)) (C := RX6) (T := TX6) (N := 40) hx hb hW iX6 hown hK hP6 0 rfl rfl 12 (by decide) (hW _ k_879) (fun _ h => h) rfl dX6_readBond_52 ?_
    refine lv_imul hx hb dX6_readBond_55 ?_
    refine lv_iconst (v := (1 : Int32)) hx hb dX6_readBond_56 (by decide) ?_
    refine lv_iadd hx hb dX6_readBond_57 ?_
    refine lv_aload_n hx hb dX6_readBond_58 rfl (lv_at hl3 1 rfl) ?_
    refine lv_iconst (v := (0 : Int32)) hx hb dX6_readBond_59 (by decide) ?_
    obtain ⟨y60, hy60, hm⟩ := bn hm
    refine cVWi (As := [.int (0 : Int32)]) (rest := [.int (((2 : Int32) * (v6_ 0 12)) + (1 : Int32)), .ref (a 8)]) (Wn := fun (uu : SV) => wX6 q a uu) X hP6 hD6 hS6 (fun _ h => Or.inr h) hl3.1 (c_X6_partHere l D q H6.size a v6_ (0 : Int32) y60 hy60) [0, 1, 2, 3, 4, 5, 6, 7, 8, 9, 10, 11, 12, 13, 14, 15, 16, 17] [] [0, 1, 2, 3, 4, 5, 6, 7, 8, 9, 10, 11, 12, 13, 14, 15, 16, 17] rfl (Wr := []) rfl (by decide) (by decide) (by decide) (by decide) (fun _ => rfl) 0 rfl rfl rfl k_1045 mX6_partHere ⟨rfl, rfl⟩ ⟨Nat.le_of_ble_eq_true rfl, Nat.le_of_ble_eq_true rfl⟩ rfl rfl (Nat.le_of_ble_eq_true rfl) dX6_readBond_60 ⟨Nat.zero_le _, Nat.zero_le _⟩ (fun H7 locs7 hP hD hS7 => ?_)
    have hP7 : va_P D cls (wX6 q a y60.2) H7 := hP
    have hD7 : va_D (va_A (wX6 q a v) s.heap.size) (wX6 q a y60.2) := hD
    clear hP hD hP6 hD6 hS6
    obtain ⟨h8, hm⟩ := ckd hm
    refine va_iast (f := (y60.2 8)) hx hb hK hP7 hD7 hS7 5 0 rfl rfl (inB_vp h8) dX6_readBond_63 (fun H9 locs9 hP hD hS9 => ?_)
    obtain ⟨v9_, e9, hm⟩ := ltd hm
    have hP9 : va_P D cls (wX6 q a v9_) H9 := by rw [e9]; exact hP
    have hD9 : va_D (va_A (wX6 q a v) s.heap.size) (wX6 q a v9_) := by rw [e9]; exact hD
    clear hP hD hP7 hD7 hS7
    refine lv_aload_n hx hb dX6_readBond_64 rfl (lv_at hl3 1 rfl) ?_
    refine lv_dup hx hb dX6_readBond_65 rfl ?_
    refine va_get (D := D) (ci := 6) (v := .int (v9_ 0 12)) (C := RX6) (T := TX6) (N := 40) hx hb hW iX6 hown hK hP9 0 rfl rfl 12 (by decide) (hW _ k_879) (fun _ h => h) rfl dX6_readBond_66 ?_
    refine lv_iconst (v := (1 : Int32)) hx hb dX6_readBond_69 (by decide) ?_
    refine lv_iadd hx hb dX6_readBond_70 ?_
    refine va_put (D := D) (ci := 6) (v := .int ((v9_ 0 12) + (1 : Int32))) (ty := .int) (C := RX6) (T := TX6) (N := 40) hx hb hW iX6 tyX6 tyX6_ok nmX6 hown hK hP9 hD9 hS9 0 rfl rfl 12 (by decide) (hW _ k_879) (fun _ h => h) rfl (by decide +kernel) rfl rfl (Nat.le_of_ble_eq_true rfl) dX6_readBond_71 (fun H10 locs10 hP hD hS10 => ?_)
    obtain ⟨v10_, e10, hm⟩ := ltd hm
    have hP10 : va_P D cls (wX6 q a v10_) H10 := by rw [e10]; exact hP
    have hD10 : va_D (va_A (wX6 q a v) s.heap.size) (wX6 q a v10_) := by rw [e10]; exact hD
    clear hP hD hP9 hD9 hS9
    exact eWv (Wf := fun (uu : SV) => wX6 q a uu) (u := v10_) X hr hlocks hP10 hD10 hS10 hm dX6_readBond_74
  refine lv_if_ne (tgt := 34) hx hb dX6_readBond_10 (by decide) (fun c10 => ?_) (fun c10 => ?_)
  · replace hm := tn hm c10
    exact hJ34 y2.2 hm _ _ hP1 hD1 hS1 _ (lv_sub hl2 [0, 1] rfl)
  · replace hm := tp hm c10
    refine lv_aload_n hx hb dX6_readBond_13 rfl (lv_at hl2 1 rfl) ?_
    refine va_get (D := D) (ci := 6) (v := .int (y2.2 0 25)) (C := RX6) (T := TX6) (N := 40) hx hb hW iX6 hown hK hP1 0 rfl rfl 25 (by decide) (hW _ k_892) (fun _ h => h) rfl dX6_readBond_14 ?_
    refine lv_iconst (v := (2 : Int32)) hx hb dX6_readBond_17 (by decide) ?_
    refine lv_icmp_ne (tgt := 34) hx hb dX6_readBond_18 (by decide) (fun c18 => ?_) (fun c18 => ?_)
    · replace hm := tn hm c18
      exact hJ34 y2.2 hm _ _ hP1 hD1 hS1 _ (lv_sub hl2 [0, 1] rfl)
    · replace hm := tp hm c18
      refine lv_aload_n hx hb dX6_readBond_21 rfl (lv_at hl2 1 rfl) ?_
      refine va_get (D := D) (ci := 6) (v := .int (y2.2 0 26)) (C := RX6) (T := TX6) (N := 40) hx hb hW iX6 hown hK hP1 0 rfl rfl 26 (by decide) (hW _ k_893) (fun _ h => h) rfl dX6_readBond_22 ?_
      refine lv_iload_n hx hb dX6_readBond_25 rfl (lv_at hl2 0 rfl) ?_
      refine lv_icmp_ne (tgt := 34) hx hb dX6_readBond_26 (by decide) (fun c26 => ?_) (fun c26 => ?_)
      · replace hm := tn hm c26
        exact hJ34 y2.2 hm _ _ hP1 hD1 hS1 _ (lv_sub hl2 [0, 1] rfl)
      · replace hm := tp hm c26
        refine lv_aload_n hx hb dX6_readBond_29 rfl (lv_at hl2 1 rfl) ?_
        refine lv_iconst (v := (3 : Int32)) hx hb dX6_readBond_30 (by decide) ?_
        obtain ⟨y31, hy31, hm⟩ := bn hm
        refine cVWv (As := [.int (3 : Int32)]) (rest := []) (Wn := fun (uu : SV) => wX6 q a uu) X hP1 hD1 hS1 (fun _ h => Or.inr h) hl2.1 (c_X6_fails l D q H1.size a y2.2 (3 : Int32) y31 hy31) [0, 1, 2, 3, 4, 5, 6, 7, 8, 9, 10, 11, 12, 13, 14, 15, 16, 17] [] [0, 1, 2, 3, 4, 5, 6, 7, 8, 9, 10, 11, 12, 13, 14, 15, 16, 17] rfl (Wr := []) rfl (by decide) (by decide) (by decide) (by decide) (fun _ => rfl) 0 rfl rfl rfl k_1020 mX6_fails ⟨rfl, rfl⟩ ⟨Nat.le_of_ble_eq_true rfl, Nat.le_of_ble_eq_true rfl⟩ rfl rfl (Nat.le_of_ble_eq_true rfl) dX6_readBond_31 ⟨Nat.zero_le _, Nat.zero_le _⟩ (fun H11 locs11 hP hD hS11 => ?_)
        have hP11 : va_P D cls (wX6 q a y31) H11 := hP
        have hD11 : va_D (va_A (wX6 q a v) s.heap.size) (wX6 q a y31) := hD
        clear hP hD hP1 hD1 hS1
        exact hJ34 y31 hm _ _ hP11 hD11 hS11 _ (lv_sub hl2 [0, 1] rfl)
noncomputable def m_X6_readPaint_J51 (z51 : SV) : Option (SV) :=
  (m_X6_partHere z51 (0 : Int32)).bind (fun y53 => (m_X6_sitterHere y53.2 (0 : Int32)).bind (fun y59 => (if (y59.2 0 21) = 0 then ck (inB ((6 : Int32) + y53.1) 63) (ck (inB (((12 : Int32) + ((4 : Int32) * y53.1)) + (y59.2 7 ((((6 : Int32) + y53.1)).toNatClampNeg))) 63) (lett (up2 y59.2 7 (((((12 : Int32) + ((4 : Int32) * y53.1)) + (y59.2 7 ((((6 : Int32) + y53.1)).toNatClampNeg)))).toNatClampNeg) y59.1) (fun v9_ => ck (inB ((6 : Int32) + y53.1) 63) (ck (inB ((6 : Int32) + y53.1) 63) (lett (up2 v9_ 7 ((((6 : Int32) + y53.1)).toNatClampNeg) ((v9_ 7 ((((6 : Int32) + y53.1)).toNatClampNeg)) + (1 : Int32))) (fun v12_ => some v12_)))))) else some y59.2)))
noncomputable def m_X6_readPaint (v : SV) : Option (SV) :=
  (if (v 0 21) = 0 then (if (v 0 25) = (2 : Int32) then (m_X6_in ((v 0 26).toInt64) (0 : Int64) (5 : Int64)).bind (fun y24 => (if y24 = 0 then m_X6_readPaint_J51 v else ck (inB ((6 : Int32) + (v 0 26)) 63) ((if (v 7 ((((6 : Int32) + (v 0 26))).toNatClampNeg)) = (4 : Int32) then (m_X6_fails v (5 : Int32)).bind (fun y48 => m_X6_readPaint_J51 y48) else m_X6_readPaint_J51 v)))) else m_X6_readPaint_J51 v) else m_X6_readPaint_J51 v)
set_option maxHeartbeats 4000000 in
set_option maxRecDepth 100000 in
theorem c_X6_readPaint (l : Launch) (D : va_G) (q : Nat → ClassId) (sz : Nat) (a : Nat → Nat) (v : SV) (res : SV) (hm : m_X6_readPaint v = some res) : Met l yX6_readPaint (mw yX6_readPaint cX6_readPaint 3 none) ({ frames := 4, cells := 0, slots := 0, locals := 92 } : Room) (pcW D q (wX6 q a v) sz [.ref (a 99)]) (va_Qv (fun w => w = res) (bW D q (wX6 q a v) sz (fun (uu : SV) => wX6 q a uu)) (va_A (wX6 q a v) sz)) 0 0 (va_A (wX6 q a v) sz) := by
  refine Met.ofW (cc := cX6_readPaint) (maxL := 3) (ret := none) (by decide) rfl ?_
  intro p e s m args below meth c s₁ B hml hv
  obtain ⟨rfl, hsz, hP0, hK, hD0⟩ := hv
  have hx := B.exec
  have hb := B.bytes
  have hr := B.returns
  have hW := mw_ws (atoms_spec (ws := mw yX6_readPaint cX6_readPaint 3 none) B.pre)
  have hown : s.vm.findClass RX6 = some m.cls := findClass_of_methodNamed B.named
  have hlocks := B.notSynchronized
  have X : Cx p s m [.ref (a 99)].toArray c cX6_readPaint 3 RX6 D q := ⟨hx, hb, hml, hown, hW, hK⟩
  subst hsz
  replace hD0 := hD0.self (sz := s.heap.size)
  have hS0 : va_S (va_A (wX6 q a v) s.heap.size) s.heap s.heap [] := va_S.rf
  have hl0 := lv_entry ([.ref (a 99)]) (n := 3) (Nat.le_of_ble_eq_true rfl)
  rw [lg_entry_eq]
  generalize (lg_sl ([.ref (a 99)]) ++ List.replicate (3 - (lg_sl ([.ref (a 99)])).length) Slot.unset).toArray = ls0 at hl0 ⊢
  have hl0 : lv_has ls0 3 [(0, .ref (a 99))] := hl0
  unfold m_X6_readPaint at hm
  refine lv_aload_n hx hb dX6_readPaint_0 rfl (lv_at hl0 0 rfl) ?_
  refine va_get (D := D) (ci := 6) (v := .int (v 0 21)) (C := RX6) (T := TX6) (N := 40) hx hb hW iX6 hown hK hP0 0 rfl rfl 21 (by decide) (hW _ k_888) (fun _ h => h) rfl dX6_readPaint_1 ?_
  have hJ51 : ∀ z51 : SV, m_X6_readPaint_J51 z51 = some res → ∀ (H : Heap) (locs : List Loc), va_P D cls (wX6 q a z51) H → va_D (va_A (wX6 q a v) s.heap.size) (wX6 q a z51) → va_S (va_A (wX6 q a v) s.heap.size) s.heap H locs → ∀ ls : Array Slot, lv_has ls 3 [(0, .ref (a 99))] → W p l e ((headSpec (mw yX6_readPaint cX6_readPaint 3 none) ({ frames := 4, cells := 0, slots := 0, locals := 92 } : Room)).room) s m [.ref (a 99)].toArray below meth c H locs 0 0 (MQ below (va_Qv (fun w => w = res) (bW D q (wX6 q a v) s.heap.size (fun (uu : SV) => wX6 q a uu)) (va_A (wX6 q a v) s.heap.size)) [.ref (a 99)].toArray s 0 0 (va_A (wX6 q a v) s.heap.size)) (F0 m 51 ls []) := by
    intro z51 hm H2 locs2 hP2 hD2 hS2 ls1 hl1
    unfold m_X6_readPaint_J51 at hm
    refine lv_aload_n hx hb dX6_readPaint_51 rfl (lv_at hl1 0 rfl) ?_
    refine lv_iconst (v := (0 : Int32)) hx hb dX6_readPaint_52 (by decide) ?_
    obtain ⟨y53, hy53, hm⟩ := bn hm
    refine cVWi (As := [.int (0 : Int32)]) (rest := []) (Wn := fun (uu : SV) => wX6 q a uu) X hP2 hD2 hS2 (fun _ h => Or.inr h) hl1.1 (c_X6_partHere l D q H2.size a z51 (0 : Int32) y53 hy53) [0, 1, 2, 3, 4, 5, 6, 7, 8, 9, 10, 11, 12, 13, 14, 15, 16, 17] [] [0, 1, 2, 3, 4, 5, 6, 7, 8, 9, 10, 11, 12, 13, 14, 15, 16, 17] rfl (Wr := []) rfl (by decide) (by decide) (by decide) (by decide) (fun _ => rfl) 0 rfl rfl rfl k_1045 mX6_partHere ⟨rfl, rfl⟩ ⟨Nat.le_of_ble_eq_true rfl, Nat.le_of_ble_eq_true rfl⟩ rfl rfl (Nat.le_of_ble_eq_true rfl) dX6_readPaint_53 ⟨Nat.zero_le _, Nat.zero_le _⟩ (fun H3 locs3 hP hD hS3 => ?_)
    have hP3 : va_P D cls (wX6 q a y53.2) H3 := hP
    have hD3 : va_D (va_A (wX6 q a v) s.heap.size) (wX6 q a y53.2) := hD
    clear hP hD hP2 hD2 hS2
    refine lv_istore_n (lv' := [(1, .int y53.1), (0, .ref (a 99))]) hx hb dX6_readPaint_56 rfl hl1 (by decide) rfl (fun ls4 hl4 => ?_)
    clear hl1
    refine lv_aload_n hx hb dX6_readPaint_57 rfl (lv_at hl4 1 rfl) ?_
    refine lv_iconst (v := (0 : Int32)) hx hb dX6_readPaint_58 (by decide) ?_
    obtain ⟨y59, hy59, hm⟩ := bn hm
    refine cVWi (As := [.int (0 : Int32)]) (rest := []) (Wn := fun (uu : SV) => wX6 q a uu) X hP3 hD3 hS3 (fun _ h => Or.inr h) hl4.1 (c_X6_sitterHere l D q H3.size a y53.2 (0 : Int32) y59 hy59) [0, 1, 2, 3, 4, 5, 6, 7, 8, 9, 10, 11, 12, 13, 14, 15, 16, 17] [] [0, 1, 2, 3, 4, 5, 6, 7, 8, 9, 10, 11, 12, 13, 14, 15, 16, 17] rfl (Wr := []) rfl (by decide) (by decide) (by decide) (by decide) (fun _ => rfl) 0 rfl rfl rfl k_1057 mX6_sitterHere ⟨rfl, rfl⟩ ⟨Nat.le_of_ble_eq_true rfl, Nat.le_of_ble_eq_true rfl⟩ rfl rfl (Nat.le_of_ble_eq_true rfl) dX6_readPaint_59 ⟨Nat.zero_le _, Nat.zero_le _⟩ (fun H5 locs5 hP hD hS5 => ?_)
    have hP5 : va_P D cls (wX6 q a y59.2) H5 := hP
    have hD5 : va_D (va_A (wX6 q a v) s.heap.size) (wX6 q a y59.2) := hD
    clear hP hD hP3 hD3 hS3
    refine lv_istore_n (lv' := [(2, .int y59.1), (1, .int y53.1), (0, .ref (a 99))]) hx hb dX6_readPaint_62 rfl hl4 (by decide) rfl (fun ls6 hl6 => ?_)
    clear hl4
    refine lv_aload_n hx hb dX6_readPaint_63 rfl (lv_at hl6 2 rfl) ?_
    refine va_get (D := D) (ci := 6) (v := .int (y59.2 0 21)) (C := RX6) (T := TX6) (N := 40) hx hb hW iX6 hown hK hP5 0 rfl rfl 21 (by decide) (hW _ k_888) (fun _ h => h) rfl dX6_readPaint_64 ?_
    refine lv_if_ne (tgt := 105) hx hb dX6_readPaint_67 (by decide) (fun c67 => ?_) (fun c67 => ?_)
    · replace hm := tn hm c67
      exact eWv (Wf := fun (uu : SV) => wX6 q a uu) (u := y59.2) X hr hlocks hP5 hD5 hS5 hm dX6_readPaint_105
    · replace hm := tp hm c67
      refine lv_aload_n hx hb dX6_readPaint_70 rfl (lv_at hl6 2 rfl) ?_
      refine va_get (D := D) (ci := 6) (v := .ref (a 7)) (C := RX6) (T := TX6) (N := 40) hx hb hW iX6 hown hK hP5 0 rfl rfl 7 (by decide) (hW _ k_874) (fun _ h => h) rfl dX6_readPaint_71 ?_
      refine lv_bipush (v := (12 : Int32)) hx hb dX6_readPaint_74 (by decide) ?_
      refine lv_iconst (v := (4 : Int32)) hx hb dX6_readPaint_76 (by decide) ?_
      refine lv_iload_n hx hb dX6_readPaint_77 rfl (lv_at hl6 1 rfl) ?_
      refine lv_imul hx hb dX6_readPaint_78 ?_
      refine lv_iadd hx hb dX6_readPaint_79 ?_
      refine lv_aload_n hx hb dX6_readPaint_80 rfl (lv_at hl6 2 rfl) ?_
      refine va_get (D := D) (ci := 6) (v := .ref (a 7)) (C := RX6) (T := TX6) (N := 40) hx hb hW iX6 hown hK hP5 0 rfl rfl 7 (by decide) (hW _ k_874) (fun _ h => h) rfl dX6_readPaint_81 ?_
      refine lv_bipush (v := (6 : Int32)) hx hb dX6_readPaint_84 (by decide) ?_
      refine lv_iload_n hx hb dX6_readPaint_86 rfl (lv_at hl6 1 rfl) ?_
      refine lv_iadd hx hb dX6_readPaint_87 ?_
      obtain ⟨h7, hm⟩ := ckd hm
      refine va_iald (f := (y59.2 7)) hx hb hK hP5 4 0 rfl rfl (inB_vp h7) dX6_readPaint_88 ?_
      refine lv_iadd hx hb dX6_readPaint_89 ?_
      refine lv_iload_n hx hb dX6_readPaint_90 rfl (lv_at hl6 0 rfl) ?_
      obtain ⟨h8, hm⟩ := ckd hm
      refine va_iast (f := (y59.2 7)) hx hb hK hP5 hD5 hS5 4 0 rfl rfl (inB_vp h8) dX6_readPaint_91 (fun H9 locs9 hP hD hS9 => ?_)
      obtain ⟨v9_, e9, hm⟩ := ltd hm
      have hP9 : va_P D cls (wX6 q a v9_) H9 := by rw [e9]; exact hP
      have hD9 : va_D (va_A (wX6 q a v) s.heap.size) (wX6 q a v9_) := by rw [e9]; exact hD
      clear hP hD hP5 hD5 hS5
      refine lv_aload_n hx hb dX6_readPaint_92 rfl (lv_at hl6 2 rfl) ?_
      refine va_get (D := D) (ci := 6) (v := .ref (a 7)) (C := RX6) (T := TX6) (N := 40) hx hb hW iX6 hown hK hP9 0 rfl rfl 7 (by decide) (hW _ k_874) (fun _ h => h) rfl dX6_readPaint_93 ?_
      refine lv_bipush (v := (6 : Int32)) hx hb dX6_readPaint_96 (by decide) ?_
      refine lv_iload_n hx hb dX6_readPaint_98 rfl (lv_at hl6 1 rfl) ?_
      refine lv_iadd hx hb dX6_readPaint_99 ?_
      refine lv_dup2_11 hx hb dX6_readPaint_100 rfl rfl ?_
      obtain ⟨h10, hm⟩ := ckd hm
      refine va_iald (f := (v9_ 7)) hx hb hK hP9 4 0 rfl rfl (inB_vp h10) dX6_readPaint_101 ?_
      refine lv_iconst (v := (1 : Int32)) hx hb dX6_readPaint_102 (by decide) ?_
      refine lv_iadd hx hb dX6_readPaint_103 ?_
      obtain ⟨h11, hm⟩ := ckd hm
      refine va_iast (f := (v9_ 7)) hx hb hK hP9 hD9 hS9 4 0 rfl rfl (inB_vp h11) dX6_readPaint_104 (fun H12 locs12 hP hD hS12 => ?_)
      obtain ⟨v12_, e12, hm⟩ := ltd hm
      have hP12 : va_P D cls (wX6 q a v12_) H12 := by rw [e12]; exact hP
      have hD12 : va_D (va_A (wX6 q a v) s.heap.size) (wX6 q a v12_) := by rw [e12]; exact hD
      clear hP hD hP9 hD9 hS9
      exact eWv (Wf := fun (uu : SV) => wX6 q a uu) (u := v12_) X hr hlocks hP12 hD12 hS12 hm dX6_readPaint_105
  refine lv_if_ne (tgt := 51) hx hb dX6_readPaint_4 (by decide) (fun c4 => ?_) (fun c4 => ?_)
  · replace hm := tn hm c4
    exact hJ51 v hm _ _ hP0 hD0 hS0 _ (lv_sub hl0 [0] rfl)
  · replace hm := tp hm c4
    refine lv_aload_n hx hb dX6_readPaint_7 rfl (lv_at hl0 0 rfl) ?_
    refine va_get (D := D) (ci := 6) (v := .int (v 0 25)) (C := RX6) (T := TX6) (N := 40) hx hb hW iX6 hown hK hP0 0 rfl rfl 25 (by decide) (hW _ k_892) (fun _ h => h) rfl dX6_readPaint_8 ?_
    refine lv_iconst (v := (2 : Int32)) hx hb dX6_readPaint_11 (by decide) ?_
    refine lv_icmp_ne (tgt := 51) hx hb dX6_readPaint_12 (by decide) (fun c12 => ?_) (fun c12 => ?_)
    · replace hm := tn hm c12
      exact hJ51 v hm _ _ hP0 hD0 hS0 _ (lv_sub hl0 [0] rfl)
    · replace hm := tp hm c12
      refine lv_aload_n hx hb dX6_readPaint_15 rfl (lv_at hl0 0 rfl) ?_
      refine va_get (D := D) (ci := 6) (v := .int (v 0 26)) (C := RX6) (T := TX6) (N := 40) hx hb hW iX6 hown hK hP0 0 rfl rfl 26 (by decide) (hW _ k_893) (fun _ h => h) rfl dX6_readPaint_16 ?_
      refine lv_i2l hx hb dX6_readPaint_19 rfl ?_
      refine lv_lconst (v := (0 : Int64)) hx hb dX6_readPaint_20 (by decide) ?_
      refine lv_ldc2 (v := (5 : Int64)) hx hb hown (hW _ k_1065) dX6_readPaint_21 ?_
      obtain ⟨y24, hy24, hm⟩ := bn hm
      refine cSRi (As := [.long ((v 0 26).toInt64), .long (0 : Int64), .long (5 : Int64)]) (rest := []) X hP0 hl0.1 (c_X6_in l D q ((v 0 26).toInt64) (0 : Int64) (5 : Int64) y24 hy24) [] rfl k_993 mX6_in ⟨rfl, rfl⟩ ⟨Nat.le_of_ble_eq_true rfl, Nat.le_of_ble_eq_true rfl⟩ rfl rfl (Nat.le_of_ble_eq_true rfl) dX6_readPaint_24 ⟨Nat.zero_le _, Nat.zero_le _⟩ ?_
      refine lv_if_eq (tgt := 51) hx hb dX6_readPaint_27 (by decide) (fun c27 => ?_) (fun c27 => ?_)
      · replace hm := tp hm c27
        exact hJ51 v hm _ _ hP0 hD0 hS0 _ (lv_sub hl0 [0] rfl)
      · replace hm := tn hm c27
        refine lv_aload_n hx hb dX6_readPaint_30 rfl (lv_at hl0 0 rfl) ?_
        refine va_get (D := D) (ci := 6) (v := .ref (a 7)) (C := RX6) (T := TX6) (N := 40) hx hb hW iX6 hown hK hP0 0 rfl rfl 7 (by decide) (hW _ k_874) (fun _ h => h) rfl dX6_readPaint_31 ?_
        refine lv_bipush (v := (6 : Int32)) hx hb dX6_readPaint_34 (by decide) ?_
        refine lv_aload_n hx hb dX6_readPaint_36 rfl (lv_at hl0 0 rfl) ?_
        refine va_get (D := D) (ci := 6) (v := .int (v 0 26)) (C := RX6) (T := TX6) (N := 40) hx hb hW iX6 hown hK hP0 0 rfl rfl 26 (by decide) (hW _ k_893) (fun _ h => h) rfl dX6_readPaint_37 ?_
        refine lv_iadd hx hb dX6_readPaint_40 ?_
        obtain ⟨h13, hm⟩ := ckd hm
        refine va_iald (f := (v 7)) hx hb hK hP0 4 0 rfl rfl (inB_vp h13) dX6_readPaint_41 ?_
        refine lv_iconst (v := (4 : Int32)) hx hb dX6_readPaint_42 (by decide) ?_
        refine lv_icmp_ne (tgt := 51) hx hb dX6_readPaint_43 (by decide) (fun c43 => ?_) (fun c43 => ?_)
        · replace hm := tn hm c43
          exact hJ51 v hm _ _ hP0 hD0 hS0 _ (lv_sub hl0 [0] rfl)
        · replace hm := tp hm c43
          refine lv_aload_n hx hb dX6_readPaint_46 rfl (lv_at hl0 0 rfl) ?_
          refine lv_iconst (v := (5 : Int32)) hx hb dX6_readPaint_47 (by decide) ?_
          obtain ⟨y48, hy48, hm⟩ := bn hm
          refine cVWv (As := [.int (5 : Int32)]) (rest := []) (Wn := fun (uu : SV) => wX6 q a uu) X hP0 hD0 hS0 (fun _ h => Or.inr h) hl0.1 (c_X6_fails l D q s.heap.size a v (5 : Int32) y48 hy48) [0, 1, 2, 3, 4, 5, 6, 7, 8, 9, 10, 11, 12, 13, 14, 15, 16, 17] [] [0, 1, 2, 3, 4, 5, 6, 7, 8, 9, 10, 11, 12, 13, 14, 15, 16, 17] rfl (Wr := []) rfl (by decide) (by decide) (by decide) (by decide) (fun _ => rfl) 0 rfl rfl rfl k_1020 mX6_fails ⟨rfl, rfl⟩ ⟨Nat.le_of_ble_eq_true rfl, Nat.le_of_ble_eq_true rfl⟩ rfl rfl (Nat.le_of_ble_eq_true rfl) dX6_readPaint_48 ⟨Nat.zero_le _, Nat.zero_le _⟩ (fun H14 locs14 hP hD hS14 => ?_)
          have hP14 : va_P D cls (wX6 q a y48) H14 := hP
          have hD14 : va_D (va_A (wX6 q a v) s.heap.size) (wX6 q a y48) := hD
          clear hP hD hP0 hD0 hS0
          exact hJ51 y48 hm _ _ hP14 hD14 hS14 _ (lv_sub hl0 [0] rfl)
noncomputable def m_X6_readForger_K2 (z2 : Int32 × SV) : Option (SV) :=
  ck (inB (z2.2 0 13) 4) (lett (up2 z2.2 9 (((z2.2 0 13)).toNatClampNeg) z2.1) (fun v7_ => lett (up2 v7_ 0 13 ((v7_ 0 13) + (1 : Int32))) (fun v8_ => some v8_)))
noncomputable def m_X6_readForger_L2 (z2 : Int32 × SV) : Option ((Int32 × SV) ⊕ (Int32 × SV)) :=
  (if (z2.2 0 21) = 0 then (if (z2.2 0 25) = (2 : Int32) then (m_X6_sitterHere z2.2 z2.1).bind (fun y21 => some (.inl ((z2.1 ||| ((1 : Int32) <<< (y21.1 &&& 31))), y21.2))) else some (.inr (z2.1, z2.2))) else some (.inr (z2.1, z2.2)))
noncomputable def m_X6_readForger (v : SV) : Option (SV) :=
  (lpC (m_X6_readForger_L2) ((0 : Int32), v)).bind (m_X6_readForger_K2)
set_option maxHeartbeats 4000000 in
set_option maxRecDepth 100000 in
theorem c_X6_readForger (l : Launch) (D : va_G) (q : Nat → ClassId) (sz : Nat) (a : Nat → Nat) (v : SV) (res : SV) (hm : m_X6_readForger v = some res) : Met l yX6_readForger (mw yX6_readForger cX6_readForger 2 none) ({ frames := 4, cells := 0, slots := 0, locals := 92 } : Room) (pcW D q (wX6 q a v) sz [.ref (a 99)]) (va_Qv (fun w => w = res) (bW D q (wX6 q a v) sz (fun (uu : SV) => wX6 q a uu)) (va_A (wX6 q a v) sz)) 0 0 (va_A (wX6 q a v) sz) := by
  refine Met.ofW (cc := cX6_readForger) (maxL := 2) (ret := none) (by decide) rfl ?_
  intro p e s m args below meth c s₁ B hml hv
  obtain ⟨rfl, hsz, hP0, hK, hD0⟩ := hv
  have hx := B.exec
  have hb := B.bytes
  have hr := B.returns
  have hW := mw_ws (atoms_spec (ws := mw yX6_readForger cX6_readForger 2 none) B.pre)
  have hown : s.vm.findClass RX6 = some m.cls := findClass_of_methodNamed B.named
  have hlocks := B.notSynchronized
  have X : Cx p s m [.ref (a 99)].toArray c cX6_readForger 2 RX6 D q := ⟨hx, hb, hml, hown, hW, hK⟩
  subst hsz
  replace hD0 := hD0.self (sz := s.heap.size)
  have hS0 : va_S (va_A (wX6 q a v) s.heap.size) s.heap s.heap [] := va_S.rf
  have hl0 := lv_entry ([.ref (a 99)]) (n := 2) (Nat.le_of_ble_eq_true rfl)
  rw [lg_entry_eq]
  generalize (lg_sl ([.ref (a 99)]) ++ List.replicate (2 - (lg_sl ([.ref (a 99)])).length) Slot.unset).toArray = ls0 at hl0 ⊢
  have hl0 : lv_has ls0 2 [(0, .ref (a 99))] := hl0
  unfold m_X6_readForger at hm
  refine lv_iconst (v := (0 : Int32)) hx hb dX6_readForger_0 (by decide) ?_
  refine lv_istore_n (lv' := [(1, .int (0 : Int32)), (0, .ref (a 99))]) hx hb dX6_readForger_1 rfl hl0 (by decide) rfl (fun ls1 hl1 => ?_)
  clear hl0
  obtain ⟨r2, hr2, hm⟩ := bn hm
  obtain ⟨n2, hn2⟩ := lpC_ex hr2
  have hE2 : ∀ z2 : Int32 × SV, m_X6_readForger_K2 z2 = some res → ∀ (H : Heap) (locs : List Loc), va_P D cls (wX6 q a z2.2) H → va_D (va_A (wX6 q a v) s.heap.size) (wX6 q a z2.2) → va_S (va_A (wX6 q a v) s.heap.size) s.heap H locs → ∀ ls : Array Slot, lv_has ls 2 [(0, .ref (a 99)), (1, .int z2.1)] → W p l e ((headSpec (mw yX6_readForger cX6_readForger 2 none) ({ frames := 4, cells := 0, slots := 0, locals := 92 } : Room)).room) s m [.ref (a 99)].toArray below meth c H locs 0 0 (MQ below (va_Qv (fun w => w = res) (bW D q (wX6 q a v) s.heap.size (fun (uu : SV) => wX6 q a uu)) (va_A (wX6 q a v) s.heap.size)) [.ref (a 99)].toArray s 0 0 (va_A (wX6 q a v) s.heap.size)) (F0 m 30 ls []) := by
    intro z2 hm H5 locs5 hP5 hD5 hS5 ls4 hl4
    unfold m_X6_readForger_K2 at hm
    refine lv_aload_n hx hb dX6_readForger_30 rfl (lv_at hl4 0 rfl) ?_
    refine va_get (D := D) (ci := 6) (v := .ref (a 9)) (C := RX6) (T := TX6) (N := 40) hx hb hW iX6 hown hK hP5 0 rfl rfl 9 (by decide) (hW _ k_876) (fun _ h => h) rfl dX6_readForger_31 ?_
    refine lv_aload_n hx hb dX6_readForger_34 rfl (lv_at hl4 0 rfl) ?_
    refine va_get (D := D) (ci := 6) (v := .int (z2.2 0 13)) (C := RX6) (T := TX6) (N := 40) hx hb hW iX6 hown hK hP5 0 rfl rfl 13 (by decide) (hW _ k_880) (fun _ h => h) rfl dX6_readForger_35 ?_
    refine lv_iload_n hx hb dX6_readForger_38 rfl (lv_at hl4 1 rfl) ?_
    obtain ⟨h6, hm⟩ := ckd hm
    refine va_iast (f := (z2.2 9)) hx hb hK hP5 hD5 hS5 6 0 rfl rfl (inB_vp h6) dX6_readForger_39 (fun H7 locs7 hP hD hS7 => ?_)
    obtain ⟨v7_, e7, hm⟩ := ltd hm
    have hP7 : va_P D cls (wX6 q a v7_) H7 := by rw [e7]; exact hP
    have hD7 : va_D (va_A (wX6 q a v) s.heap.size) (wX6 q a v7_) := by rw [e7]; exact hD
    clear hP hD hP5 hD5 hS5
    refine lv_aload_n hx hb dX6_readForger_40 rfl (lv_at hl4 0 rfl) ?_
    refine lv_dup hx hb dX6_readForger_41 rfl ?_
    refine va_get (D := D) (ci := 6) (v := .int (v7_ 0 13)) (C := RX6) (T := TX6) (N := 40) hx hb hW iX6 hown hK hP7 0 rfl rfl 13 (by decide) (hW _ k_880) (fun _ h => h) rfl dX6_readForger_42 ?_
    refine lv_iconst (v := (1 : Int32)) hx hb dX6_readForger_45 (by decide) ?_
    refine lv_iadd hx hb dX6_readForger_46 ?_
    refine va_put (D := D) (ci := 6) (v := .int ((v7_ 0 13) + (1 : Int32))) (ty := .int) (C := RX6) (T := TX6) (N := 40) hx hb hW iX6 tyX6 tyX6_ok nmX6 hown hK hP7 hD7 hS7 0 rfl rfl 13 (by decide) (hW _ k_880) (fun _ h => h) rfl (by decide +kernel) rfl rfl (Nat.le_of_ble_eq_true rfl) dX6_readForger_47 (fun H8 locs8 hP hD hS8 => ?_)
    obtain ⟨v8_, e8, hm⟩ := ltd hm
    have hP8 : va_P D cls (wX6 q a v8_) H8 := by rw [e8]; exact hP
    have hD8 : va_D (va_A (wX6 q a v) s.heap.size) (wX6 q a v8_) := by rw [e8]; exact hD
    clear hP hD hP7 hD7 hS7
    exact eWv (Wf := fun (uu : SV) => wX6 q a uu) (u := v8_) X hr hlocks hP8 hD8 hS8 hm dX6_readForger_50
  have hL2 : ∀ (n : Nat) (z2 : Int32 × SV) (ρ2 : Int32 × SV), lpO (m_X6_readForger_L2) n z2 = some ρ2 → (m_X6_readForger_K2) ρ2 = some res → ∀ (H : Heap) (locs : List Loc), va_P D cls (wX6 q a z2.2) H → va_D (va_A (wX6 q a v) s.heap.size) (wX6 q a z2.2) → va_S (va_A (wX6 q a v) s.heap.size) s.heap H locs → ∀ ls : Array Slot, lv_has ls 2 [(0, .ref (a 99)), (1, .int z2.1)] → W p l e ((headSpec (mw yX6_readForger cX6_readForger 2 none) ({ frames := 4, cells := 0, slots := 0, locals := 92 } : Room)).room) s m [.ref (a 99)].toArray below meth c H locs 0 0 (MQ below (va_Qv (fun w => w = res) (bW D q (wX6 q a v) s.heap.size (fun (uu : SV) => wX6 q a uu)) (va_A (wX6 q a v) s.heap.size)) [.ref (a 99)].toArray s 0 0 (va_A (wX6 q a v) s.heap.size)) (F0 m 2 ls []) := by
    intro n
    induction n with
    | zero => intro _ _ h; cases h
    | succ n ih2 =>
      intro z2 ρ2 hz2 hK2 H3 locs3 hP3 hD3 hS3 ls2 hl2
      obtain ⟨t2, hm, hz2⟩ := bn hz2
      unfold m_X6_readForger_L2 at hm
      refine lv_aload_n hx hb dX6_readForger_2 rfl (lv_at hl2 0 rfl) ?_
      refine va_get (D := D) (ci := 6) (v := .int (z2.2 0 21)) (C := RX6) (T := TX6) (N := 40) hx hb hW iX6 hown hK hP3 0 rfl rfl 21 (by decide) (hW _ k_888) (fun _ h => h) rfl dX6_readForger_3 ?_
      refine lv_if_ne (tgt := 30) hx hb dX6_readForger_6 (by decide) (fun c6 => ?_) (fun c6 => ?_)
      · replace hm := tn hm c6
        cases hm
        cases hz2
        exact hE2 (z2.1, z2.2) hK2 _ _ hP3 hD3 hS3 _ (lv_sub hl2 [0, 1] rfl)
      · replace hm := tp hm c6
        refine lv_aload_n hx hb dX6_readForger_9 rfl (lv_at hl2 0 rfl) ?_
        refine va_get (D := D) (ci := 6) (v := .int (z2.2 0 25)) (C := RX6) (T := TX6) (N := 40) hx hb hW iX6 hown hK hP3 0 rfl rfl 25 (by decide) (hW _ k_892) (fun _ h => h) rfl dX6_readForger_10 ?_
        refine lv_iconst (v := (2 : Int32)) hx hb dX6_readForger_13 (by decide) ?_
        refine lv_icmp_ne (tgt := 30) hx hb dX6_readForger_14 (by decide) (fun c14 => ?_) (fun c14 => ?_)
        · replace hm := tn hm c14
          cases hm
          cases hz2
          exact hE2 (z2.1, z2.2) hK2 _ _ hP3 hD3 hS3 _ (lv_sub hl2 [0, 1] rfl)
        · replace hm := tp hm c14
          refine lv_iload_n hx hb dX6_readForger_17 rfl (lv_at hl2 1 rfl) ?_
          refine lv_iconst (v := (1 : Int32)) hx hb dX6_readForger_18 (by decide) ?_
          refine lv_aload_n hx hb dX6_readForger_19 rfl (lv_at hl2 0 rfl) ?_
          refine lv_iload_n hx hb dX6_readForger_20 rfl (lv_at hl2 1 rfl) ?_
          obtain ⟨y21, hy21, hm⟩ := bn hm
          refine cVWi (As := [.int z2.1]) (rest := [.int (1 : Int32), .int z2.1]) (Wn := fun (uu : SV) => wX6 q a uu) X hP3 hD3 hS3 (fun _ h => Or.inr h) hl2.1 (c_X6_sitterHere l D q H3.size a z2.2 z2.1 y21 hy21) [0, 1, 2, 3, 4, 5, 6, 7, 8, 9, 10, 11, 12, 13, 14, 15, 16, 17] [] [0, 1, 2, 3, 4, 5, 6, 7, 8, 9, 10, 11, 12, 13, 14, 15, 16, 17] rfl (Wr := []) rfl (by decide) (by decide) (by decide) (by decide) (fun _ => rfl) 0 rfl rfl rfl k_1057 mX6_sitterHere ⟨rfl, rfl⟩ ⟨Nat.le_of_ble_eq_true rfl, Nat.le_of_ble_eq_true rfl⟩ rfl rfl (Nat.le_of_ble_eq_true rfl) dX6_readForger_21 ⟨Nat.zero_le _, Nat.zero_le _⟩ (fun H9 locs9 hP hD hS9 => ?_)
          have hP9 : va_P D cls (wX6 q a y21.2) H9 := hP
          have hD9 : va_D (va_A (wX6 q a v) s.heap.size) (wX6 q a y21.2) := hD
          clear hP hD hP3 hD3 hS3
          refine lv_ishl hx hb dX6_readForger_24 ?_
          refine lv_ior hx hb dX6_readForger_25 ?_
          refine lv_istore_n (lv' := [(1, .int (z2.1 ||| ((1 : Int32) <<< (y21.1 &&& 31)))), (0, .ref (a 99))]) hx hb dX6_readForger_26 rfl hl2 (by decide) rfl (fun ls10 hl10 => ?_)
          clear hl2
          refine lv_goto (tgt := 2) hx hb dX6_readForger_27 (by decide) ?_
          cases hm
          exact ih2 ((z2.1 ||| ((1 : Int32) <<< (y21.1 &&& 31))), y21.2) ρ2 hz2 hK2 _ _ hP9 hD9 hS9 _ (lv_sub hl10 [1, 0] rfl)
  exact hL2 n2 ((0 : Int32), v) r2 hn2 hm _ _ hP0 hD0 hS0 _ (lv_sub hl1 [1, 0] rfl)
noncomputable def m_X6_readWorth (v : SV) : Option (SV) :=
  (m_X6_partHere v (v 0 15)).bind (fun y5 => lett (up2 y5.2 0 15 ((y5.2 0 15) ||| ((1 : Int32) <<< (y5.1 &&& 31)))) (fun v3_ => (m_X6_other v3_ (0 : Int32) (9 : Int32) (0 : Int32)).bind (fun y31 => ck (inB y5.1 63) (lett (up2 y31.2 7 ((y5.1).toNatClampNeg) (y31.1 - (1 : Int32))) (fun v6_ => some v6_)))))
set_option maxHeartbeats 4000000 in
set_option maxRecDepth 100000 in
theorem c_X6_readWorth (l : Launch) (D : va_G) (q : Nat → ClassId) (sz : Nat) (a : Nat → Nat) (v : SV) (res : SV) (hm : m_X6_readWorth v = some res) : Met l yX6_readWorth (mw yX6_readWorth cX6_readWorth 2 none) ({ frames := 4, cells := 0, slots := 0, locals := 92 } : Room) (pcW D q (wX6 q a v) sz [.ref (a 99)]) (va_Qv (fun w => w = res) (bW D q (wX6 q a v) sz (fun (uu : SV) => wX6 q a uu)) (va_A (wX6 q a v) sz)) 0 0 (va_A (wX6 q a v) sz) := by
  refine Met.ofW (cc := cX6_readWorth) (maxL := 2) (ret := none) (by decide) rfl ?_
  intro p e s m args below meth c s₁ B hml hv
  obtain ⟨rfl, hsz, hP0, hK, hD0⟩ := hv
  have hx := B.exec
  have hb := B.bytes
  have hr := B.returns
  have hW := mw_ws (atoms_spec (ws := mw yX6_readWorth cX6_readWorth 2 none) B.pre)
  have hown : s.vm.findClass RX6 = some m.cls := findClass_of_methodNamed B.named
  have hlocks := B.notSynchronized
  have X : Cx p s m [.ref (a 99)].toArray c cX6_readWorth 2 RX6 D q := ⟨hx, hb, hml, hown, hW, hK⟩
  subst hsz
  replace hD0 := hD0.self (sz := s.heap.size)
  have hS0 : va_S (va_A (wX6 q a v) s.heap.size) s.heap s.heap [] := va_S.rf
  have hl0 := lv_entry ([.ref (a 99)]) (n := 2) (Nat.le_of_ble_eq_true rfl)
  rw [lg_entry_eq]
  generalize (lg_sl ([.ref (a 99)]) ++ List.replicate (2 - (lg_sl ([.ref (a 99)])).length) Slot.unset).toArray = ls0 at hl0 ⊢
  have hl0 : lv_has ls0 2 [(0, .ref (a 99))] := hl0
  unfold m_X6_readWorth at hm
  refine lv_aload_n hx hb dX6_readWorth_0 rfl (lv_at hl0 0 rfl) ?_
  refine lv_aload_n hx hb dX6_readWorth_1 rfl (lv_at hl0 0 rfl) ?_
  refine va_get (D := D) (ci := 6) (v := .int (v 0 15)) (C := RX6) (T := TX6) (N := 40) hx hb hW iX6 hown hK hP0 0 rfl rfl 15 (by decide) (hW _ k_882) (fun _ h => h) rfl dX6_readWorth_2 ?_
  obtain ⟨y5, hy5, hm⟩ := bn hm
  refine cVWi (As := [.int (v 0 15)]) (rest := []) (Wn := fun (uu : SV) => wX6 q a uu) X hP0 hD0 hS0 (fun _ h => Or.inr h) hl0.1 (c_X6_partHere l D q s.heap.size a v (v 0 15) y5 hy5) [0, 1, 2, 3, 4, 5, 6, 7, 8, 9, 10, 11, 12, 13, 14, 15, 16, 17] [] [0, 1, 2, 3, 4, 5, 6, 7, 8, 9, 10, 11, 12, 13, 14, 15, 16, 17] rfl (Wr := []) rfl (by decide) (by decide) (by decide) (by decide) (fun _ => rfl) 0 rfl rfl rfl k_1045 mX6_partHere ⟨rfl, rfl⟩ ⟨Nat.le_of_ble_eq_true rfl, Nat.le_of_ble_eq_true rfl⟩ rfl rfl (Nat.le_of_ble_eq_true rfl) dX6_readWorth_5 ⟨Nat.zero_le _, Nat.zero_le _⟩ (fun H1 locs1 hP hD hS1 => ?_)
  have hP1 : va_P D cls (wX6 q a y5.2) H1 := hP
  have hD1 : va_D (va_A (wX6 q a v) s.heap.size) (wX6 q a y5.2) := hD
  clear hP hD hP0 hD0 hS0
  refine lv_istore_n (lv' := [(1, .int y5.1), (0, .ref (a 99))]) hx hb dX6_readWorth_8 rfl hl0 (by decide) rfl (fun ls2 hl2 => ?_)
  clear hl0
  refine lv_aload_n hx hb dX6_readWorth_9 rfl (lv_at hl2 1 rfl) ?_
  refine lv_dup hx hb dX6_readWorth_10 rfl ?_
  refine va_get (D := D) (ci := 6) (v := .int (y5.2 0 15)) (C := RX6) (T := TX6) (N := 40) hx hb hW iX6 hown hK hP1 0 rfl rfl 15 (by decide) (hW _ k_882) (fun _ h => h) rfl dX6_readWorth_11 ?_
  refine lv_iconst (v := (1 : Int32)) hx hb dX6_readWorth_14 (by decide) ?_
  refine lv_iload_n hx hb dX6_readWorth_15 rfl (lv_at hl2 0 rfl) ?_
  refine lv_ishl hx hb dX6_readWorth_16 ?_
  refine lv_ior hx hb dX6_readWorth_17 ?_
  refine va_put (D := D) (ci := 6) (v := .int ((y5.2 0 15) ||| ((1 : Int32) <<< (y5.1 &&& 31)))) (ty := .int) (C := RX6) (T := TX6) (N := 40) hx hb hW iX6 tyX6 tyX6_ok nmX6 hown hK hP1 hD1 hS1 0 rfl rfl 15 (by decide) (hW _ k_882) (fun _ h => h) rfl (by decide +kernel) rfl rfl (Nat.le_of_ble_eq_true rfl) dX6_readWorth_18 (fun H3 locs3 hP hD hS3 => ?_)
  obtain ⟨v3_, e3, hm⟩ := ltd hm
  have hP3 : va_P D cls (wX6 q a v3_) H3 := by rw [e3]; exact hP
  have hD3 : va_D (va_A (wX6 q a v) s.heap.size) (wX6 q a v3_) := by rw [e3]; exact hD
  clear hP hD hP1 hD1 hS1
  refine lv_aload_n hx hb dX6_readWorth_21 rfl (lv_at hl2 1 rfl) ?_
  refine va_get (D := D) (ci := 6) (v := .ref (a 7)) (C := RX6) (T := TX6) (N := 40) hx hb hW iX6 hown hK hP3 0 rfl rfl 7 (by decide) (hW _ k_874) (fun _ h => h) rfl dX6_readWorth_22 ?_
  refine lv_iload_n hx hb dX6_readWorth_25 rfl (lv_at hl2 0 rfl) ?_
  refine lv_aload_n hx hb dX6_readWorth_26 rfl (lv_at hl2 1 rfl) ?_
  refine lv_iconst (v := (0 : Int32)) hx hb dX6_readWorth_27 (by decide) ?_
  refine lv_bipush (v := (9 : Int32)) hx hb dX6_readWorth_28 (by decide) ?_
  refine lv_iconst (v := (0 : Int32)) hx hb dX6_readWorth_30 (by decide) ?_
  obtain ⟨y31, hy31, hm⟩ := bn hm
  refine cVWi (As := [.int (0 : Int32), .int (9 : Int32), .int (0 : Int32)]) (rest := [.int y5.1, .ref (a 7)]) (Wn := fun (uu : SV) => wX6 q a uu) X hP3 hD3 hS3 (fun _ h => Or.inr h) hl2.1 (c_X6_other l D q H3.size a v3_ (0 : Int32) (9 : Int32) (0 : Int32) y31 hy31) [0, 1, 2, 3, 4, 5, 6, 7, 8, 9, 10, 11, 12, 13, 14, 15, 16, 17] [] [0, 1, 2, 3, 4, 5, 6, 7, 8, 9, 10, 11, 12, 13, 14, 15, 16, 17] rfl (Wr := []) rfl (by decide) (by decide) (by decide) (by decide) (fun _ => rfl) 0 rfl rfl rfl k_1037 mX6_other ⟨rfl, rfl⟩ ⟨Nat.le_of_ble_eq_true rfl, Nat.le_of_ble_eq_true rfl⟩ rfl rfl (Nat.le_of_ble_eq_true rfl) dX6_readWorth_31 ⟨Nat.zero_le _, Nat.zero_le _⟩ (fun H4 locs4 hP hD hS4 => ?_)
  have hP4 : va_P D cls (wX6 q a y31.2) H4 := hP
  have hD4 : va_D (va_A (wX6 q a v) s.heap.size) (wX6 q a y31.2) := hD
  clear hP hD hP3 hD3 hS3
  refine lv_iconst (v := (1 : Int32)) hx hb dX6_readWorth_34 (by decide) ?_
  refine lv_isub hx hb dX6_readWorth_35 ?_
  obtain ⟨h5, hm⟩ := ckd hm
  refine va_iast (f := (y31.2 7)) hx hb hK hP4 hD4 hS4 4 0 rfl rfl (inB_vp h5) dX6_readWorth_36 (fun H6 locs6 hP hD hS6 => ?_)
  obtain ⟨v6_, e6, hm⟩ := ltd hm
  have hP6 : va_P D cls (wX6 q a v6_) H6 := by rw [e6]; exact hP
  have hD6 : va_D (va_A (wX6 q a v) s.heap.size) (wX6 q a v6_) := by rw [e6]; exact hD
  clear hP hD hP4 hD4 hS4
  exact eWv (Wf := fun (uu : SV) => wX6 q a uu) (u := v6_) X hr hlocks hP6 hD6 hS6 hm dX6_readWorth_37
noncomputable def m_X6_readMore (v : SV) (x1 : Int32) : Option (SV) :=
  (if x1 = (4 : Int32) then (m_X6_other v (2 : Int32) (6 : Int32) (0 : Int32)).bind (fun y42 => lett (up2 y42.2 0 10 y42.1) (fun v2_ => some v2_)) else (if x1 = (5 : Int32) then (m_X6_readWorth v).bind (fun y52 => some y52) else (if x1 = (6 : Int32) then (m_X6_readBond v).bind (fun y59 => some y59) else (if x1 = (7 : Int32) then (m_X6_readForger v).bind (fun y66 => some y66) else (if x1 = (8 : Int32) then (m_X6_readPaint v).bind (fun y73 => some y73) else (m_X6_readSitter v x1).bind (fun y81 => some y81))))))
set_option maxHeartbeats 4000000 in
set_option maxRecDepth 100000 in
theorem c_X6_readMore (l : Launch) (D : va_G) (q : Nat → ClassId) (sz : Nat) (a : Nat → Nat) (v : SV) (x1 : Int32) (res : SV) (hm : m_X6_readMore v x1 = some res) : Met l yX6_readMore (mw yX6_readMore cX6_readMore 2 none) ({ frames := 5, cells := 0, slots := 0, locals := 114 } : Room) (pcW D q (wX6 q a v) sz [.ref (a 99), .int x1]) (va_Qv (fun w => w = res) (bW D q (wX6 q a v) sz (fun (uu : SV) => wX6 q a uu)) (va_A (wX6 q a v) sz)) 0 0 (va_A (wX6 q a v) sz) := by
  refine Met.ofW (cc := cX6_readMore) (maxL := 2) (ret := none) (by decide) rfl ?_
  intro p e s m args below meth c s₁ B hml hv
  obtain ⟨rfl, hsz, hP0, hK, hD0⟩ := hv
  have hx := B.exec
  have hb := B.bytes
  have hr := B.returns
  have hW := mw_ws (atoms_spec (ws := mw yX6_readMore cX6_readMore 2 none) B.pre)
  have hown : s.vm.findClass RX6 = some m.cls := findClass_of_methodNamed B.named
  have hlocks := B.notSynchronized
  have X : Cx p s m [.ref (a 99), .int x1].toArray c cX6_readMore 2 RX6 D q := ⟨hx, hb, hml, hown, hW, hK⟩
  subst hsz
  replace hD0 := hD0.self (sz := s.heap.size)
  have hS0 : va_S (va_A (wX6 q a v) s.heap.size) s.heap s.heap [] := va_S.rf
  have hl0 := lv_entry ([.ref (a 99), .int x1]) (n := 2) (Nat.le_of_ble_eq_true rfl)
  rw [lg_entry_eq]
  generalize (lg_sl ([.ref (a 99), .int x1]) ++ List.replicate (2 - (lg_sl ([.ref (a 99), .int x1])).length) Slot.unset).toArray = ls0 at hl0 ⊢
  have hl0 : lv_has ls0 2 [(0, .ref (a 99)), (1, .int x1)] := hl0
  unfold m_X6_readMore at hm
  refine lv_iload_n hx hb dX6_readMore_0 rfl (lv_at hl0 1 rfl) ?_
  by_cases c1_4 : x1 = (4 : Int32)
  · replace hm := tp hm c1_4
    refine lv_tableIn (off := 35) (tgt := 36) hx hb dX6_readMore_1 (by rw [c1_4]; decide) (by rw [c1_4]; decide) (by rw [c1_4]; rfl) (by decide) ?_
    refine lv_aload_n hx hb dX6_readMore_36 rfl (lv_at hl0 0 rfl) ?_
    refine lv_aload_n hx hb dX6_readMore_37 rfl (lv_at hl0 0 rfl) ?_
    refine lv_iconst (v := (2 : Int32)) hx hb dX6_readMore_38 (by decide) ?_
    refine lv_bipush (v := (6 : Int32)) hx hb dX6_readMore_39 (by decide) ?_
    refine lv_iconst (v := (0 : Int32)) hx hb dX6_readMore_41 (by decide) ?_
    obtain ⟨y42, hy42, hm⟩ := bn hm
    refine cVWi (As := [.int (2 : Int32), .int (6 : Int32), .int (0 : Int32)]) (rest := [.ref (a 99)]) (Wn := fun (uu : SV) => wX6 q a uu) X hP0 hD0 hS0 (fun _ h => Or.inr h) hl0.1 (c_X6_other l D q s.heap.size a v (2 : Int32) (6 : Int32) (0 : Int32) y42 hy42) [0, 1, 2, 3, 4, 5, 6, 7, 8, 9, 10, 11, 12, 13, 14, 15, 16, 17] [] [0, 1, 2, 3, 4, 5, 6, 7, 8, 9, 10, 11, 12, 13, 14, 15, 16, 17] rfl (Wr := []) rfl (by decide) (by decide) (by decide) (by decide) (fun _ => rfl) 0 rfl rfl rfl k_1037 mX6_other ⟨rfl, rfl⟩ ⟨Nat.le_of_ble_eq_true rfl, Nat.le_of_ble_eq_true rfl⟩ rfl rfl (Nat.le_of_ble_eq_true rfl) dX6_readMore_42 ⟨Nat.zero_le _, Nat.zero_le _⟩ (fun H1 locs1 hP hD hS1 => ?_)
    have hP1 : va_P D cls (wX6 q a y42.2) H1 := hP
    have hD1 : va_D (va_A (wX6 q a v) s.heap.size) (wX6 q a y42.2) := hD
    clear hP hD hP0 hD0 hS0
    refine va_put (D := D) (ci := 6) (v := .int y42.1) (ty := .int) (C := RX6) (T := TX6) (N := 40) hx hb hW iX6 tyX6 tyX6_ok nmX6 hown hK hP1 hD1 hS1 0 rfl rfl 10 (by decide) (hW _ k_877) (fun _ h => h) rfl (by decide +kernel) rfl rfl (Nat.le_of_ble_eq_true rfl) dX6_readMore_45 (fun H2 locs2 hP hD hS2 => ?_)
    obtain ⟨v2_, e2, hm⟩ := ltd hm
    have hP2 : va_P D cls (wX6 q a v2_) H2 := by rw [e2]; exact hP
    have hD2 : va_D (va_A (wX6 q a v) s.heap.size) (wX6 q a v2_) := by rw [e2]; exact hD
    clear hP hD hP1 hD1 hS1
    refine lv_goto (tgt := 84) hx hb dX6_readMore_48 (by decide) ?_
    exact eWv (Wf := fun (uu : SV) => wX6 q a uu) (u := v2_) X hr hlocks hP2 hD2 hS2 hm dX6_readMore_84
  · replace hm := tn hm c1_4
    by_cases c1_5 : x1 = (5 : Int32)
    · replace hm := tp hm c1_5
      refine lv_tableIn (off := 50) (tgt := 51) hx hb dX6_readMore_1 (by rw [c1_5]; decide) (by rw [c1_5]; decide) (by rw [c1_5]; rfl) (by decide) ?_
      refine lv_aload_n hx hb dX6_readMore_51 rfl (lv_at hl0 0 rfl) ?_
      obtain ⟨y52, hy52, hm⟩ := bn hm
      refine cVWv (As := []) (rest := []) (Wn := fun (uu : SV) => wX6 q a uu) X hP0 hD0 hS0 (fun _ h => Or.inr h) hl0.1 (c_X6_readWorth l D q s.heap.size a v y52 hy52) [0, 1, 2, 3, 4, 5, 6, 7, 8, 9, 10, 11, 12, 13, 14, 15, 16, 17] [] [0, 1, 2, 3, 4, 5, 6, 7, 8, 9, 10, 11, 12, 13, 14, 15, 16, 17] rfl (Wr := []) rfl (by decide) (by decide) (by decide) (by decide) (fun _ => rfl) 0 rfl rfl rfl k_1041 mX6_readWorth ⟨rfl, rfl⟩ ⟨Nat.le_of_ble_eq_true rfl, Nat.le_of_ble_eq_true rfl⟩ rfl rfl (Nat.le_of_ble_eq_true rfl) dX6_readMore_52 ⟨Nat.zero_le _, Nat.zero_le _⟩ (fun H3 locs3 hP hD hS3 => ?_)
      have hP3 : va_P D cls (wX6 q a y52) H3 := hP
      have hD3 : va_D (va_A (wX6 q a v) s.heap.size) (wX6 q a y52) := hD
      clear hP hD hP0 hD0 hS0
      refine lv_goto (tgt := 84) hx hb dX6_readMore_55 (by decide) ?_
      exact eWv (Wf := fun (uu : SV) => wX6 q a uu) (u := y52) X hr hlocks hP3 hD3 hS3 hm dX6_readMore_84
    · replace hm := tn hm c1_5
      by_cases c1_6 : x1 = (6 : Int32)
      · replace hm := tp hm c1_6
        refine lv_tableIn (off := 57) (tgt := 58) hx hb dX6_readMore_1 (by rw [c1_6]; decide) (by rw [c1_6]; decide) (by rw [c1_6]; rfl) (by decide) ?_
        refine lv_aload_n hx hb dX6_readMore_58 rfl (lv_at hl0 0 rfl) ?_
        obtain ⟨y59, hy59, hm⟩ := bn hm
        refine cVWv (As := []) (rest := []) (Wn := fun (uu : SV) => wX6 q a uu) X hP0 hD0 hS0 (fun _ h => Or.inr h) hl0.1 (c_X6_readBond l D q s.heap.size a v y59 hy59) [0, 1, 2, 3, 4, 5, 6, 7, 8, 9, 10, 11, 12, 13, 14, 15, 16, 17] [] [0, 1, 2, 3, 4, 5, 6, 7, 8, 9, 10, 11, 12, 13, 14, 15, 16, 17] rfl (Wr := []) rfl (by decide) (by decide) (by decide) (by decide) (fun _ => rfl) 0 rfl rfl rfl k_1049 mX6_readBond ⟨rfl, rfl⟩ ⟨Nat.le_of_ble_eq_true rfl, Nat.le_of_ble_eq_true rfl⟩ rfl rfl (Nat.le_of_ble_eq_true rfl) dX6_readMore_59 ⟨Nat.zero_le _, Nat.zero_le _⟩ (fun H4 locs4 hP hD hS4 => ?_)
        have hP4 : va_P D cls (wX6 q a y59) H4 := hP
        have hD4 : va_D (va_A (wX6 q a v) s.heap.size) (wX6 q a y59) := hD
        clear hP hD hP0 hD0 hS0
        refine lv_goto (tgt := 84) hx hb dX6_readMore_62 (by decide) ?_
        exact eWv (Wf := fun (uu : SV) => wX6 q a uu) (u := y59) X hr hlocks hP4 hD4 hS4 hm dX6_readMore_84
      · replace hm := tn hm c1_6
        by_cases c1_7 : x1 = (7 : Int32)
        · replace hm := tp hm c1_7
          refine lv_tableIn (off := 64) (tgt := 65) hx hb dX6_readMore_1 (by rw [c1_7]; decide) (by rw [c1_7]; decide) (by rw [c1_7]; rfl) (by decide) ?_
          refine lv_aload_n hx hb dX6_readMore_65 rfl (lv_at hl0 0 rfl) ?_
          obtain ⟨y66, hy66, hm⟩ := bn hm
          refine cVWv (As := []) (rest := []) (Wn := fun (uu : SV) => wX6 q a uu) X hP0 hD0 hS0 (fun _ h => Or.inr h) hl0.1 (c_X6_readForger l D q s.heap.size a v y66 hy66) [0, 1, 2, 3, 4, 5, 6, 7, 8, 9, 10, 11, 12, 13, 14, 15, 16, 17] [] [0, 1, 2, 3, 4, 5, 6, 7, 8, 9, 10, 11, 12, 13, 14, 15, 16, 17] rfl (Wr := []) rfl (by decide) (by decide) (by decide) (by decide) (fun _ => rfl) 0 rfl rfl rfl k_1053 mX6_readForger ⟨rfl, rfl⟩ ⟨Nat.le_of_ble_eq_true rfl, Nat.le_of_ble_eq_true rfl⟩ rfl rfl (Nat.le_of_ble_eq_true rfl) dX6_readMore_66 ⟨Nat.zero_le _, Nat.zero_le _⟩ (fun H5 locs5 hP hD hS5 => ?_)
          have hP5 : va_P D cls (wX6 q a y66) H5 := hP
          have hD5 : va_D (va_A (wX6 q a v) s.heap.size) (wX6 q a y66) := hD
          clear hP hD hP0 hD0 hS0
          refine lv_goto (tgt := 84) hx hb dX6_readMore_69 (by decide) ?_
          exact eWv (Wf := fun (uu : SV) => wX6 q a uu) (u := y66) X hr hlocks hP5 hD5 hS5 hm dX6_readMore_84
        · replace hm := tn hm c1_7
          by_cases c1_8 : x1 = (8 : Int32)
          · replace hm := tp hm c1_8
            refine lv_tableIn (off := 71) (tgt := 72) hx hb dX6_readMore_1 (by rw [c1_8]; decide) (by rw [c1_8]; decide) (by rw [c1_8]; rfl) (by decide) ?_
            refine lv_aload_n hx hb dX6_readMore_72 rfl (lv_at hl0 0 rfl) ?_
            obtain ⟨y73, hy73, hm⟩ := bn hm
            refine cVWv (As := []) (rest := []) (Wn := fun (uu : SV) => wX6 q a uu) X hP0 hD0 hS0 (fun _ h => Or.inr h) hl0.1 (c_X6_readPaint l D q s.heap.size a v y73 hy73) [0, 1, 2, 3, 4, 5, 6, 7, 8, 9, 10, 11, 12, 13, 14, 15, 16, 17] [] [0, 1, 2, 3, 4, 5, 6, 7, 8, 9, 10, 11, 12, 13, 14, 15, 16, 17] rfl (Wr := []) rfl (by decide) (by decide) (by decide) (by decide) (fun _ => rfl) 0 rfl rfl rfl k_1061 mX6_readPaint ⟨rfl, rfl⟩ ⟨Nat.le_of_ble_eq_true rfl, Nat.le_of_ble_eq_true rfl⟩ rfl rfl (Nat.le_of_ble_eq_true rfl) dX6_readMore_73 ⟨Nat.zero_le _, Nat.zero_le _⟩ (fun H6 locs6 hP hD hS6 => ?_)
            have hP6 : va_P D cls (wX6 q a y73) H6 := hP
            have hD6 : va_D (va_A (wX6 q a v) s.heap.size) (wX6 q a y73) := hD
            clear hP hD hP0 hD0 hS0
            refine lv_goto (tgt := 84) hx hb dX6_readMore_76 (by decide) ?_
            exact eWv (Wf := fun (uu : SV) => wX6 q a uu) (u := y73) X hr hlocks hP6 hD6 hS6 hm dX6_readMore_84
          · replace hm := tn hm c1_8
            have hk1 : x1.toInt < 4 ∨ 8 < x1.toInt := by
              have g0 := lv_neT c1_4 (show ((4 : Int32)).toInt = 4 from rfl)
              have g1 := lv_neT c1_5 (show ((5 : Int32)).toInt = 5 from rfl)
              have g2 := lv_neT c1_6 (show ((6 : Int32)).toInt = 6 from rfl)
              have g3 := lv_neT c1_7 (show ((7 : Int32)).toInt = 7 from rfl)
              have g4 := lv_neT c1_8 (show ((8 : Int32)).toInt = 8 from rfl)
              omega
            refine lv_tableOut (tgt := 79) hx hb dX6_readMore_1 hk1 (by decide) ?_
            refine lv_aload_n hx hb dX6_readMore_79 rfl (lv_at hl0 0 rfl) ?_
            refine lv_iload_n hx hb dX6_readMore_80 rfl (lv_at hl0 1 rfl) ?_
            obtain ⟨y81, hy81, hm⟩ := bn hm
            refine cVWv (As := [.int x1]) (rest := []) (Wn := fun (uu : SV) => wX6 q a uu) X hP0 hD0 hS0 (fun _ h => Or.inr h) hl0.1 (c_X6_readSitter l D q s.heap.size a v x1 y81 hy81) [0, 1, 2, 3, 4, 5, 6, 7, 8, 9, 10, 11, 12, 13, 14, 15, 16, 17] [] [0, 1, 2, 3, 4, 5, 6, 7, 8, 9, 10, 11, 12, 13, 14, 15, 16, 17] rfl (Wr := []) rfl (by decide) (by decide) (by decide) (by decide) (fun _ => rfl) 0 rfl rfl rfl k_1066 mX6_readSitter ⟨rfl, rfl⟩ ⟨Nat.le_of_ble_eq_true rfl, Nat.le_of_ble_eq_true rfl⟩ rfl rfl (Nat.le_of_ble_eq_true rfl) dX6_readMore_81 ⟨Nat.zero_le _, Nat.zero_le _⟩ (fun H7 locs7 hP hD hS7 => ?_)
            have hP7 : va_P D cls (wX6 q a y81) H7 := hP
            have hD7 : va_D (va_A (wX6 q a v) s.heap.size) (wX6 q a y81) := hD
            clear hP hD hP0 hD0 hS0
            exact eWv (Wf := fun (uu : SV) => wX6 q a uu) (u := y81) X hr hlocks hP7 hD7 hS7 hm dX6_readMore_84
noncomputable def m_X6_readLine_J104 (y1 : Int32) (z86 : SV) (z104 : Int32) : Option (SV) :=
  ck (nzB z104) (lett (up2 z86 0 14 z104) (fun v10_ => (m_X6_step v10_).bind (fun y108 => (if (y108 0 21) ≤ 0 then (m_X6_readMore y108 y1).bind (fun y121 => (if (y121 0 21) = 0 then (if (y121 0 25) = (3 : Int32) then (m_X6_step y121).bind (fun y145 => some y145) else (m_X6_fails y121 (2 : Int32)).bind (fun y141 => (m_X6_step y141).bind (fun y145 => some y145))) else (m_X6_step y121).bind (fun y145 => some y145))) else some y108))))
noncomputable def m_X6_readLine_J99 (y1 : Int32) (z86 : SV) (z99 : Unit) : Option (SV) :=
  m_X6_readLine_J104 y1 z86 (1 : Int32)
noncomputable def m_X6_readLine_J86 (y1 : Int32) (z86 : SV) : Option (SV) :=
  (if (z86 0 14) = 0 then (if y1 = (4 : Int32) then m_X6_readLine_J99 y1 z86 () else m_X6_readLine_J104 y1 z86 (0 : Int32)) else m_X6_readLine_J99 y1 z86 ())
noncomputable def m_X6_readLine_J69 (y1 : Int32) (z69 : SV) : Option (SV) :=
  (if y1 = (4 : Int32) then (if (z69 0 14) = 0 then m_X6_readLine_J86 y1 z69 else (m_X6_fails z69 (4 : Int32)).bind (fun y83 => m_X6_readLine_J86 y1 y83)) else m_X6_readLine_J86 y1 z69)
noncomputable def m_X6_readLine_J64 (v : SV) (y1 : Int32) (z64 : Unit) : Option (SV) :=
  (m_X6_fails v (5 : Int32)).bind (fun y66 => m_X6_readLine_J69 y1 y66)
noncomputable def m_X6_readLine_J50 (v : SV) (y1 : Int32) (z50 : Unit) : Option (SV) :=
  (if y1 = (7 : Int32) then (if (v 0 13) = (4 : Int32) then m_X6_readLine_J64 v y1 () else m_X6_readLine_J69 y1 v) else m_X6_readLine_J69 y1 v)
noncomputable def m_X6_readLine_J36 (v : SV) (y1 : Int32) (z36 : Unit) : Option (SV) :=
  (if y1 = (6 : Int32) then (if (v 0 12) = (5 : Int32) then m_X6_readLine_J64 v y1 () else m_X6_readLine_J50 v y1 ()) else m_X6_readLine_J50 v y1 ())
noncomputable def m_X6_readLine (v : SV) : Option (SV) :=
  (m_X6_nameHere v).bind (fun y1 => (m_X6_in (y1.toInt64) (0 : Int64) (8 : Int64)).bind (fun y11 => (if y11 = 0 then (m_X6_fails v (2 : Int32)).bind (fun y19 => some y19) else (if (3 : Int32) < y1 then m_X6_readLine_J36 v y1 () else (if (v 0 11) = (5 : Int32) then m_X6_readLine_J64 v y1 () else m_X6_readLine_J36 v y1 ())))))
set_option maxHeartbeats 4000000 in
set_option maxRecDepth 100000 in
theorem c_X6_readLine (l : Launch) (D : va_G) (q : Nat → ClassId) (sz : Nat) (a : Nat → Nat) (v : SV) (res : SV) (hm : m_X6_readLine v = some res) : Met l yX6_readLine (mw yX6_readLine cX6_readLine 2 none) ({ frames := 6, cells := 0, slots := 0, locals := 135 } : Room) (pcW D q (wX6 q a v) sz [.ref (a 99)]) (va_Qv (fun w => w = res) (bW D q (wX6 q a v) sz (fun (uu : SV) => wX6 q a uu)) (va_A (wX6 q a v) sz)) 0 0 (va_A (wX6 q a v) sz) := by
  refine Met.ofW (cc := cX6_readLine) (maxL := 2) (ret := none) (by decide) rfl ?_
  intro p e s m args below meth c s₁ B hml hv
  obtain ⟨rfl, hsz, hP0, hK, hD0⟩ := hv
  have hx := B.exec
  have hb := B.bytes
  have hr := B.returns
  have hW := mw_ws (atoms_spec (ws := mw yX6_readLine cX6_readLine 2 none) B.pre)
  have hown : s.vm.findClass RX6 = some m.cls := findClass_of_methodNamed B.named
  have hlocks := B.notSynchronized
  have X : Cx p s m [.ref (a 99)].toArray c cX6_readLine 2 RX6 D q := ⟨hx, hb, hml, hown, hW, hK⟩
  subst hsz
  replace hD0 := hD0.self (sz := s.heap.size)
  have hS0 : va_S (va_A (wX6 q a v) s.heap.size) s.heap s.heap [] := va_S.rf
  have hl0 := lv_entry ([.ref (a 99)]) (n := 2) (Nat.le_of_ble_eq_true rfl)
  rw [lg_entry_eq]
  generalize (lg_sl ([.ref (a 99)]) ++ List.replicate (2 - (lg_sl ([.ref (a 99)])).length) Slot.unset).toArray = ls0 at hl0 ⊢
  have hl0 : lv_has ls0 2 [(0, .ref (a 99))] := hl0
  unfold m_X6_readLine at hm
  refine lv_aload_n hx hb dX6_readLine_0 rfl (lv_at hl0 0 rfl) ?_
  obtain ⟨y1, hy1, hm⟩ := bn hm
  refine cVRi (As := []) (rest := []) X hP0 hl0.1 (c_X6_nameHere l D q a v y1 hy1) [0, 1, 2, 3, 4, 5, 6, 7, 8, 9, 10, 11, 12, 13, 14, 15, 16, 17] rfl 0 rfl rfl rfl k_1028 mX6_nameHere ⟨rfl, rfl⟩ ⟨Nat.le_of_ble_eq_true rfl, Nat.le_of_ble_eq_true rfl⟩ rfl rfl (Nat.le_of_ble_eq_true rfl) dX6_readLine_1 ⟨Nat.zero_le _, Nat.zero_le _⟩ ?_
  refine lv_istore_n (lv' := [(1, .int y1), (0, .ref (a 99))]) hx hb dX6_readLine_4 rfl hl0 (by decide) rfl (fun ls1 hl1 => ?_)
  clear hl0
  refine lv_iload_n hx hb dX6_readLine_5 rfl (lv_at hl1 0 rfl) ?_
  refine lv_i2l hx hb dX6_readLine_6 rfl ?_
  refine lv_lconst (v := (0 : Int64)) hx hb dX6_readLine_7 (by decide) ?_
  refine lv_ldc2 (v := (8 : Int64)) hx hb hown (hW _ k_1032) dX6_readLine_8 ?_
  obtain ⟨y11, hy11, hm⟩ := bn hm
  refine cSRi (As := [.long (y1.toInt64), .long (0 : Int64), .long (8 : Int64)]) (rest := []) X hP0 hl1.1 (c_X6_in l D q (y1.toInt64) (0 : Int64) (8 : Int64) y11 hy11) [] rfl k_993 mX6_in ⟨rfl, rfl⟩ ⟨Nat.le_of_ble_eq_true rfl, Nat.le_of_ble_eq_true rfl⟩ rfl rfl (Nat.le_of_ble_eq_true rfl) dX6_readLine_11 ⟨Nat.zero_le _, Nat.zero_le _⟩ ?_
  refine lv_if_ne (tgt := 23) hx hb dX6_readLine_14 (by decide) (fun c14 => ?_) (fun c14 => ?_)
  · replace hm := tn hm c14
    refine lv_iload_n hx hb dX6_readLine_23 rfl (lv_at hl1 0 rfl) ?_
    refine lv_iconst (v := (3 : Int32)) hx hb dX6_readLine_24 (by decide) ?_
    have hJ69 : ∀ z69 : SV, m_X6_readLine_J69 y1 z69 = some res → ∀ (H : Heap) (locs : List Loc), va_P D cls (wX6 q a z69) H → va_D (va_A (wX6 q a v) s.heap.size) (wX6 q a z69) → va_S (va_A (wX6 q a v) s.heap.size) s.heap H locs → ∀ ls : Array Slot, lv_has ls 2 [(1, .int y1), (0, .ref (a 99))] → W p l e ((headSpec (mw yX6_readLine cX6_readLine 2 none) ({ frames := 6, cells := 0, slots := 0, locals := 135 } : Room)).room) s m [.ref (a 99)].toArray below meth c H locs 0 0 (MQ below (va_Qv (fun w => w = res) (bW D q (wX6 q a v) s.heap.size (fun (uu : SV) => wX6 q a uu)) (va_A (wX6 q a v) s.heap.size)) [.ref (a 99)].toArray s 0 0 (va_A (wX6 q a v) s.heap.size)) (F0 m 69 ls []) := by
      intro z69 hm H4 locs4 hP4 hD4 hS4 ls3 hl3
      unfold m_X6_readLine_J69 at hm
      refine lv_iload_n hx hb dX6_readLine_69 rfl (lv_at hl3 0 rfl) ?_
      refine lv_iconst (v := (4 : Int32)) hx hb dX6_readLine_70 (by decide) ?_
      have hJ86 : ∀ z86 : SV, m_X6_readLine_J86 y1 z86 = some res → ∀ (H : Heap) (locs : List Loc), va_P D cls (wX6 q a z86) H → va_D (va_A (wX6 q a v) s.heap.size) (wX6 q a z86) → va_S (va_A (wX6 q a v) s.heap.size) s.heap H locs → ∀ ls : Array Slot, lv_has ls 2 [(1, .int y1), (0, .ref (a 99))] → W p l e ((headSpec (mw yX6_readLine cX6_readLine 2 none) ({ frames := 6, cells := 0, slots := 0, locals := 135 } : Room)).room) s m [.ref (a 99)].toArray below meth c H locs 0 0 (MQ below (va_Qv (fun w => w = res) (bW D q (wX6 q a v) s.heap.size (fun (uu : SV) => wX6 q a uu)) (va_A (wX6 q a v) s.heap.size)) [.ref (a 99)].toArray s 0 0 (va_A (wX6 q a v) s.heap.size)) (F0 m 86 ls []) := by
        intro z86 hm H6 locs6 hP6 hD6 hS6 ls5 hl5
        unfold m_X6_readLine_J86 at hm
        refine lv_aload_n hx hb dX6_readLine_86 rfl (lv_at hl5 1 rfl) ?_
        refine lv_aload_n hx hb dX6_readLine_87 rfl (lv_at hl5 1 rfl) ?_
        refine va_get (D := D) (ci := 6) (v := .int (z86 0 14)) (C := RX6) (T := TX6) (N := 40) hx hb hW iX6 hown hK hP6 0 rfl rfl 14 (by decide) (hW _ k_881) (fun _ h => h) rfl dX6_readLine_88 ?_
        have hJ104 : ∀ z104 : Int32, m_X6_readLine_J104 y1 z86 z104 = some res → ∀ (H : Heap) (locs : List Loc), va_P D cls (wX6 q a z86) H → va_D (va_A (wX6 q a v) s.heap.size) (wX6 q a z86) → va_S (va_A (wX6 q a v) s.heap.size) s.heap H locs → ∀ ls : Array Slot, lv_has ls 2 [(1, .int y1), (0, .ref (a 99))] → W p l e ((headSpec (mw yX6_readLine cX6_readLine 2 none) ({ frames := 6, cells := 0, slots := 0, locals := 135 } : Room)).room) s m [.ref (a 99)].toArray below meth c H locs 0 0 (MQ below (va_Qv (fun w => w = res) (bW D q (wX6 q a v) s.heap.size (fun (uu : SV) => wX6 q a uu)) (va_A (wX6 q a v) s.heap.size)) [.ref (a 99)].toArray s 0 0 (va_A (wX6 q a v) s.heap.size)) (F0 m 104 ls [.int z104, .ref (a 99)]) := by
          intro z104 hm H8 locs8 hP8 hD8 hS8 ls7 hl7
          unfold m_X6_readLine_J104 at hm
          obtain ⟨h9, hm⟩ := ckd hm
          refine va_put (D := D) (ci := 6) (v := .int z104) (ty := .boolean) (C := RX6) (T := TX6) (N := 40) hx hb hW iX6 tyX6 tyX6_ok nmX6 hown hK hP8 hD8 hS8 0 rfl rfl 14 (by decide) (hW _ k_881) (fun _ h => h) rfl (by decide +kernel) (nz_nar h9) (nz_fit h9) (Nat.le_of_ble_eq_true rfl) dX6_readLine_104 (fun H10 locs10 hP hD hS10 => ?_)
          obtain ⟨v10_, e10, hm⟩ := ltd hm
          have hP10 : va_P D cls (wX6 q a v10_) H10 := by rw [e10]; exact hP
          have hD10 : va_D (va_A (wX6 q a v) s.heap.size) (wX6 q a v10_) := by rw [e10]; exact hD
          clear hP hD hP8 hD8 hS8
          refine lv_aload_n hx hb dX6_readLine_107 rfl (lv_at hl7 1 rfl) ?_
          obtain ⟨y108, hy108, hm⟩ := bn hm
          refine cVWv (As := []) (rest := []) (Wn := fun (uu : SV) => wX6 q a uu) X hP10 hD10 hS10 (fun _ h => Or.inr h) hl7.1 (c_X6_step l D q H10.size a v10_ y108 hy108) [0, 1, 2, 3, 4, 5, 6, 7, 8, 9, 10, 11, 12, 13, 14, 15, 16, 17] [] [0, 1, 2, 3, 4, 5, 6, 7, 8, 9, 10, 11, 12, 13, 14, 15, 16, 17] rfl (Wr := []) rfl (by decide) (by decide) (by decide) (by decide) (fun _ => rfl) 0 rfl rfl rfl k_1008 mX6_step ⟨rfl, rfl⟩ ⟨Nat.le_of_ble_eq_true rfl, Nat.le_of_ble_eq_true rfl⟩ rfl rfl (Nat.le_of_ble_eq_true rfl) dX6_readLine_108 ⟨Nat.zero_le _, Nat.zero_le _⟩ (fun H11 locs11 hP hD hS11 => ?_)
          have hP11 : va_P D cls (wX6 q a y108) H11 := hP
          have hD11 : va_D (va_A (wX6 q a v) s.heap.size) (wX6 q a y108) := hD
          clear hP hD hP10 hD10 hS10
          refine lv_aload_n hx hb dX6_readLine_111 rfl (lv_at hl7 1 rfl) ?_
          refine va_get (D := D) (ci := 6) (v := .int (y108 0 21)) (C := RX6) (T := TX6) (N := 40) hx hb hW iX6 hown hK hP11 0 rfl rfl 21 (by decide) (hW _ k_888) (fun _ h => h) rfl dX6_readLine_112 ?_
          refine lv_if_le (tgt := 119) hx hb dX6_readLine_115 (by decide) (fun c115 => ?_) (fun c115 => ?_)
          · replace hm := tp hm c115
            refine lv_aload_n hx hb dX6_readLine_119 rfl (lv_at hl7 1 rfl) ?_
            refine lv_iload_n hx hb dX6_readLine_120 rfl (lv_at hl7 0 rfl) ?_
            obtain ⟨y121, hy121, hm⟩ := bn hm
            refine cVWv (As := [.int y1]) (rest := []) (Wn := fun (uu : SV) => wX6 q a uu) X hP11 hD11 hS11 (fun _ h => Or.inr h) hl7.1 (c_X6_readMore l D q H11.size a y108 y1 y121 hy121) [0, 1, 2, 3, 4, 5, 6, 7, 8, 9, 10, 11, 12, 13, 14, 15, 16, 17] [] [0, 1, 2, 3, 4, 5, 6, 7, 8, 9, 10, 11, 12, 13, 14, 15, 16, 17] rfl (Wr := []) rfl (by decide) (by decide) (by decide) (by decide) (fun _ => rfl) 0 rfl rfl rfl k_1033 mX6_readMore ⟨rfl, rfl⟩ ⟨Nat.le_of_ble_eq_true rfl, Nat.le_of_ble_eq_true rfl⟩ rfl rfl (Nat.le_of_ble_eq_true rfl) dX6_readLine_121 ⟨Nat.zero_le _, Nat.zero_le _⟩ (fun H12 locs12 hP hD hS12 => ?_)
            have hP12 : va_P D cls (wX6 q a y121) H12 := hP
            have hD12 : va_D (va_A (wX6 q a v) s.heap.size) (wX6 q a y121) := hD
            clear hP hD hP11 hD11 hS11
            refine lv_aload_n hx hb dX6_readLine_124 rfl (lv_at hl7 1 rfl) ?_
            refine va_get (D := D) (ci := 6) (v := .int (y121 0 21)) (C := RX6) (T := TX6) (N := 40) hx hb hW iX6 hown hK hP12 0 rfl rfl 21 (by decide) (hW _ k_888) (fun _ h => h) rfl dX6_readLine_125 ?_
            refine lv_if_ne (tgt := 144) hx hb dX6_readLine_128 (by decide) (fun c128 => ?_) (fun c128 => ?_)
            · replace hm := tn hm c128
              refine lv_aload_n hx hb dX6_readLine_144 rfl (lv_at hl7 1 rfl) ?_
              obtain ⟨y145, hy145, hm⟩ := bn hm
              refine cVWv (As := []) (rest := []) (Wn := fun (uu : SV) => wX6 q a uu) X hP12 hD12 hS12 (fun _ h => Or.inr h) hl7.1 (c_X6_step l D q H12.size a y121 y145 hy145) [0, 1, 2, 3, 4, 5, 6, 7, 8, 9, 10, 11, 12, 13, 14, 15, 16, 17] [] [0, 1, 2, 3, 4, 5, 6, 7, 8, 9, 10, 11, 12, 13, 14, 15, 16, 17] rfl (Wr := []) rfl (by decide) (by decide) (by decide) (by decide) (fun _ => rfl) 0 rfl rfl rfl k_1008 mX6_step ⟨rfl, rfl⟩ ⟨Nat.le_of_ble_eq_true rfl, Nat.le_of_ble_eq_true rfl⟩ rfl rfl (Nat.le_of_ble_eq_true rfl) dX6_readLine_145 ⟨Nat.zero_le _, Nat.zero_le _⟩ (fun H16 locs16 hP hD hS16 => ?_)
              have hP16 : va_P D cls (wX6 q a y145) H16 := hP
              have hD16 : va_D (va_A (wX6 q a v) s.heap.size) (wX6 q a y145) := hD
              clear hP hD hP12 hD12 hS12
              exact eWv (Wf := fun (uu : SV) => wX6 q a uu) (u := y145) X hr hlocks hP16 hD16 hS16 hm dX6_readLine_148
            · replace hm := tp hm c128
              refine lv_aload_n hx hb dX6_readLine_131 rfl (lv_at hl7 1 rfl) ?_
              refine va_get (D := D) (ci := 6) (v := .int (y121 0 25)) (C := RX6) (T := TX6) (N := 40) hx hb hW iX6 hown hK hP12 0 rfl rfl 25 (by decide) (hW _ k_892) (fun _ h => h) rfl dX6_readLine_132 ?_
              refine lv_iconst (v := (3 : Int32)) hx hb dX6_readLine_135 (by decide) ?_
              refine lv_icmp_eq (tgt := 144) hx hb dX6_readLine_136 (by decide) (fun c136 => ?_) (fun c136 => ?_)
              · replace hm := tp hm c136
                refine lv_aload_n hx hb dX6_readLine_144 rfl (lv_at hl7 1 rfl) ?_
                obtain ⟨y145, hy145, hm⟩ := bn hm
                refine cVWv (As := []) (rest := []) (Wn := fun (uu : SV) => wX6 q a uu) X hP12 hD12 hS12 (fun _ h => Or.inr h) hl7.1 (c_X6_step l D q H12.size a y121 y145 hy145) [0, 1, 2, 3, 4, 5, 6, 7, 8, 9, 10, 11, 12, 13, 14, 15, 16, 17] [] [0, 1, 2, 3, 4, 5, 6, 7, 8, 9, 10, 11, 12, 13, 14, 15, 16, 17] rfl (Wr := []) rfl (by decide) (by decide) (by decide) (by decide) (fun _ => rfl) 0 rfl rfl rfl k_1008 mX6_step ⟨rfl, rfl⟩ ⟨Nat.le_of_ble_eq_true rfl, Nat.le_of_ble_eq_true rfl⟩ rfl rfl (Nat.le_of_ble_eq_true rfl) dX6_readLine_145 ⟨Nat.zero_le _, Nat.zero_le _⟩ (fun H13 locs13 hP hD hS13 => ?_)
                have hP13 : va_P D cls (wX6 q a y145) H13 := hP
                have hD13 : va_D (va_A (wX6 q a v) s.heap.size) (wX6 q a y145) := hD
                clear hP hD hP12 hD12 hS12
                exact eWv (Wf := fun (uu : SV) => wX6 q a uu) (u := y145) X hr hlocks hP13 hD13 hS13 hm dX6_readLine_148
              · replace hm := tn hm c136
                refine lv_aload_n hx hb dX6_readLine_139 rfl (lv_at hl7 1 rfl) ?_
                refine lv_iconst (v := (2 : Int32)) hx hb dX6_readLine_140 (by decide) ?_
                obtain ⟨y141, hy141, hm⟩ := bn hm
                refine cVWv (As := [.int (2 : Int32)]) (rest := []) (Wn := fun (uu : SV) => wX6 q a uu) X hP12 hD12 hS12 (fun _ h => Or.inr h) hl7.1 (c_X6_fails l D q H12.size a y121 (2 : Int32) y141 hy141) [0, 1, 2, 3, 4, 5, 6, 7, 8, 9, 10, 11, 12, 13, 14, 15, 16, 17] [] [0, 1, 2, 3, 4, 5, 6, 7, 8, 9, 10, 11, 12, 13, 14, 15, 16, 17] rfl (Wr := []) rfl (by decide) (by decide) (by decide) (by decide) (fun _ => rfl) 0 rfl rfl rfl k_1020 mX6_fails ⟨rfl, rfl⟩ ⟨Nat.le_of_ble_eq_true rfl, Nat.le_of_ble_eq_true rfl⟩ rfl rfl (Nat.le_of_ble_eq_true rfl) dX6_readLine_141 ⟨Nat.zero_le _, Nat.zero_le _⟩ (fun H14 locs14 hP hD hS14 => ?_)
                have hP14 : va_P D cls (wX6 q a y141) H14 := hP
                have hD14 : va_D (va_A (wX6 q a v) s.heap.size) (wX6 q a y141) := hD
                clear hP hD hP12 hD12 hS12
                refine lv_aload_n hx hb dX6_readLine_144 rfl (lv_at hl7 1 rfl) ?_
                obtain ⟨y145, hy145, hm⟩ := bn hm
                refine cVWv (As := []) (rest := []) (Wn := fun (uu : SV) => wX6 q a uu) X hP14 hD14 hS14 (fun _ h => Or.inr h) hl7.1 (c_X6_step l D q H14.size a y141 y145 hy145) [0, 1, 2, 3, 4, 5, 6, 7, 8, 9, 10, 11, 12, 13, 14, 15, 16, 17] [] [0, 1, 2, 3, 4, 5, 6, 7, 8, 9, 10, 11, 12, 13, 14, 15, 16, 17] rfl (Wr := []) rfl (by decide) (by decide) (by decide) (by decide) (fun _ => rfl) 0 rfl rfl rfl k_1008 mX6_step ⟨rfl, rfl⟩ ⟨Nat.le_of_ble_eq_true rfl, Nat.le_of_ble_eq_true rfl⟩ rfl rfl (Nat.le_of_ble_eq_true rfl) dX6_readLine_145 ⟨Nat.zero_le _, Nat.zero_le _⟩ (fun H15 locs15 hP hD hS15 => ?_)
                have hP15 : va_P D cls (wX6 q a y145) H15 := hP
                have hD15 : va_D (va_A (wX6 q a v) s.heap.size) (wX6 q a y145) := hD
                clear hP hD hP14 hD14 hS14
                exact eWv (Wf := fun (uu : SV) => wX6 q a uu) (u := y145) X hr hlocks hP15 hD15 hS15 hm dX6_readLine_148
          · replace hm := tn hm c115
            exact eWv (Wf := fun (uu : SV) => wX6 q a uu) (u := y108) X hr hlocks hP11 hD11 hS11 hm dX6_readLine_118
        have hJ99 : ∀ z99 : Unit, m_X6_readLine_J99 y1 z86 z99 = some res → ∀ (H : Heap) (locs : List Loc), va_P D cls (wX6 q a z86) H → va_D (va_A (wX6 q a v) s.heap.size) (wX6 q a z86) → va_S (va_A (wX6 q a v) s.heap.size) s.heap H locs → ∀ ls : Array Slot, lv_has ls 2 [(1, .int y1), (0, .ref (a 99))] → W p l e ((headSpec (mw yX6_readLine cX6_readLine 2 none) ({ frames := 6, cells := 0, slots := 0, locals := 135 } : Room)).room) s m [.ref (a 99)].toArray below meth c H locs 0 0 (MQ below (va_Qv (fun w => w = res) (bW D q (wX6 q a v) s.heap.size (fun (uu : SV) => wX6 q a uu)) (va_A (wX6 q a v) s.heap.size)) [.ref (a 99)].toArray s 0 0 (va_A (wX6 q a v) s.heap.size)) (F0 m 99 ls [.ref (a 99)]) := by
          intro z99 hm H18 locs18 hP18 hD18 hS18 ls17 hl17
          unfold m_X6_readLine_J99 at hm
          refine lv_iconst (v := (1 : Int32)) hx hb dX6_readLine_99 (by decide) ?_
          refine lv_goto (tgt := 104) hx hb dX6_readLine_100 (by decide) ?_
          exact hJ104 (1 : Int32) hm _ _ hP18 hD18 hS18 _ (lv_sub hl17 [0, 1] rfl)
        refine lv_if_ne (tgt := 99) hx hb dX6_readLine_91 (by decide) (fun c91 => ?_) (fun c91 => ?_)
        · replace hm := tn hm c91
          exact hJ99 () hm _ _ hP6 hD6 hS6 _ (lv_sub hl5 [0, 1] rfl)
        · replace hm := tp hm c91
          refine lv_iload_n hx hb dX6_readLine_94 rfl (lv_at hl5 0 rfl) ?_
          refine lv_iconst (v := (4 : Int32)) hx hb dX6_readLine_95 (by decide) ?_
          refine lv_icmp_ne (tgt := 103) hx hb dX6_readLine_96 (by decide) (fun c96 => ?_) (fun c96 => ?_)
          · replace hm := tn hm c96
            refine lv_iconst (v := (0 : Int32)) hx hb dX6_readLine_103 (by decide) ?_
            exact hJ104 (0 : Int32) hm _ _ hP6 hD6 hS6 _ (lv_sub hl5 [0, 1] rfl)
          · replace hm := tp hm c96
            exact hJ99 () hm _ _ hP6 hD6 hS6 _ (lv_sub hl5 [0, 1] rfl)
      refine lv_icmp_ne (tgt := 86) hx hb dX6_readLine_71 (by decide) (fun c71 => ?_) (fun c71 => ?_)
      · replace hm := tn hm c71
        exact hJ86 z69 hm _ _ hP4 hD4 hS4 _ (lv_sub hl3 [0, 1] rfl)
      · replace hm := tp hm c71
        refine lv_aload_n hx hb dX6_readLine_74 rfl (lv_at hl3 1 rfl) ?_
        refine va_get (D := D) (ci := 6) (v := .int (z69 0 14)) (C := RX6) (T := TX6) (N := 40) hx hb hW iX6 hown hK hP4 0 rfl rfl 14 (by decide) (hW _ k_881) (fun _ h => h) rfl dX6_readLine_75 ?_
        refine lv_if_eq (tgt := 86) hx hb dX6_readLine_78 (by decide) (fun c78 => ?_) (fun c78 => ?_)
        · replace hm := tp hm c78
          exact hJ86 z69 hm _ _ hP4 hD4 hS4 _ (lv_sub hl3 [0, 1] rfl)
        · replace hm := tn hm c78
          refine lv_aload_n hx hb dX6_readLine_81 rfl (lv_at hl3 1 rfl) ?_
          refine lv_iconst (v := (4 : Int32)) hx hb dX6_readLine_82 (by decide) ?_
          obtain ⟨y83, hy83, hm⟩ := bn hm
          refine cVWv (As := [.int (4 : Int32)]) (rest := []) (Wn := fun (uu : SV) => wX6 q a uu) X hP4 hD4 hS4 (fun _ h => Or.inr h) hl3.1 (c_X6_fails l D q H4.size a z69 (4 : Int32) y83 hy83) [0, 1, 2, 3, 4, 5, 6, 7, 8, 9, 10, 11, 12, 13, 14, 15, 16, 17] [] [0, 1, 2, 3, 4, 5, 6, 7, 8, 9, 10, 11, 12, 13, 14, 15, 16, 17] rfl (Wr := []) rfl (by decide) (by decide) (by decide) (by decide) (fun _ => rfl) 0 rfl rfl rfl k_1020 mX6_fails ⟨rfl, rfl⟩ ⟨Nat.le_of_ble_eq_true rfl, Nat.le_of_ble_eq_true rfl⟩ rfl rfl (Nat.le_of_ble_eq_true rfl) dX6_readLine_83 ⟨Nat.zero_le _, Nat.zero_le _⟩ (fun H19 locs19 hP hD hS19 => ?_)
          have hP19 : va_P D cls (wX6 q a y83) H19 := hP
          have hD19 : va_D (va_A (wX6 q a v) s.heap.size) (wX6 q a y83) := hD
          clear hP hD hP4 hD4 hS4
          exact hJ86 y83 hm _ _ hP19 hD19 hS19 _ (lv_sub hl3 [0, 1] rfl)
    have hJ64 : ∀ z64 : Unit, m_X6_readLine_J64 v y1 z64 = some res → ∀ (H : Heap) (locs : List Loc), va_P D cls (wX6 q a v) H → va_D (va_A (wX6 q a v) s.heap.size) (wX6 q a v) → va_S (va_A (wX6 q a v) s.heap.size) s.heap H locs → ∀ ls : Array Slot, lv_has ls 2 [(1, .int y1), (0, .ref (a 99))] → W p l e ((headSpec (mw yX6_readLine cX6_readLine 2 none) ({ frames := 6, cells := 0, slots := 0, locals := 135 } : Room)).room) s m [.ref (a 99)].toArray below meth c H locs 0 0 (MQ below (va_Qv (fun w => w = res) (bW D q (wX6 q a v) s.heap.size (fun (uu : SV) => wX6 q a uu)) (va_A (wX6 q a v) s.heap.size)) [.ref (a 99)].toArray s 0 0 (va_A (wX6 q a v) s.heap.size)) (F0 m 64 ls []) := by
      intro z64 hm H21 locs21 hP21 hD21 hS21 ls20 hl20
      unfold m_X6_readLine_J64 at hm
      refine lv_aload_n hx hb dX6_readLine_64 rfl (lv_at hl20 1 rfl) ?_
      refine lv_iconst (v := (5 : Int32)) hx hb dX6_readLine_65 (by decide) ?_
      obtain ⟨y66, hy66, hm⟩ := bn hm
      refine cVWv (As := [.int (5 : Int32)]) (rest := []) (Wn := fun (uu : SV) => wX6 q a uu) X hP21 hD21 hS21 (fun _ h => Or.inr h) hl20.1 (c_X6_fails l D q H21.size a v (5 : Int32) y66 hy66) [0, 1, 2, 3, 4, 5, 6, 7, 8, 9, 10, 11, 12, 13, 14, 15, 16, 17] [] [0, 1, 2, 3, 4, 5, 6, 7, 8, 9, 10, 11, 12, 13, 14, 15, 16, 17] rfl (Wr := []) rfl (by decide) (by decide) (by decide) (by decide) (fun _ => rfl) 0 rfl rfl rfl k_1020 mX6_fails ⟨rfl, rfl⟩ ⟨Nat.le_of_ble_eq_true rfl, Nat.le_of_ble_eq_true rfl⟩ rfl rfl (Nat.le_of_ble_eq_true rfl) dX6_readLine_66 ⟨Nat.zero_le _, Nat.zero_le _⟩ (fun H22 locs22 hP hD hS22 => ?_)
      have hP22 : va_P D cls (wX6 q a y66) H22 := hP
      have hD22 : va_D (va_A (wX6 q a v) s.heap.size) (wX6 q a y66) := hD
      clear hP hD hP21 hD21 hS21
      exact hJ69 y66 hm _ _ hP22 hD22 hS22 _ (lv_sub hl20 [0, 1] rfl)
    have hJ36 : ∀ z36 : Unit, m_X6_readLine_J36 v y1 z36 = some res → ∀ (H : Heap) (locs : List Loc), va_P D cls (wX6 q a v) H → va_D (va_A (wX6 q a v) s.heap.size) (wX6 q a v) → va_S (va_A (wX6 q a v) s.heap.size) s.heap H locs → ∀ ls : Array Slot, lv_has ls 2 [(1, .int y1), (0, .ref (a 99))] → W p l e ((headSpec (mw yX6_readLine cX6_readLine 2 none) ({ frames := 6, cells := 0, slots := 0, locals := 135 } : Room)).room) s m [.ref (a 99)].toArray below meth c H locs 0 0 (MQ below (va_Qv (fun w => w = res) (bW D q (wX6 q a v) s.heap.size (fun (uu : SV) => wX6 q a uu)) (va_A (wX6 q a v) s.heap.size)) [.ref (a 99)].toArray s 0 0 (va_A (wX6 q a v) s.heap.size)) (F0 m 36 ls []) := by
      intro z36 hm H24 locs24 hP24 hD24 hS24 ls23 hl23
      unfold m_X6_readLine_J36 at hm
      refine lv_iload_n hx hb dX6_readLine_36 rfl (lv_at hl23 0 rfl) ?_
      refine lv_bipush (v := (6 : Int32)) hx hb dX6_readLine_37 (by decide) ?_
      have hJ50 : ∀ z50 : Unit, m_X6_readLine_J50 v y1 z50 = some res → ∀ (H : Heap) (locs : List Loc), va_P D cls (wX6 q a v) H → va_D (va_A (wX6 q a v) s.heap.size) (wX6 q a v) → va_S (va_A (wX6 q a v) s.heap.size) s.heap H locs → ∀ ls : Array Slot, lv_has ls 2 [(1, .int y1), (0, .ref (a 99))] → W p l e ((headSpec (mw yX6_readLine cX6_readLine 2 none) ({ frames := 6, cells := 0, slots := 0, locals := 135 } : Room)).room) s m [.ref (a 99)].toArray below meth c H locs 0 0 (MQ below (va_Qv (fun w => w = res) (bW D q (wX6 q a v) s.heap.size (fun (uu : SV) => wX6 q a uu)) (va_A (wX6 q a v) s.heap.size)) [.ref (a 99)].toArray s 0 0 (va_A (wX6 q a v) s.heap.size)) (F0 m 50 ls []) := by
        intro z50 hm H26 locs26 hP26 hD26 hS26 ls25 hl25
        unfold m_X6_readLine_J50 at hm
        refine lv_iload_n hx hb dX6_readLine_50 rfl (lv_at hl25 0 rfl) ?_
        refine lv_bipush (v := (7 : Int32)) hx hb dX6_readLine_51 (by decide) ?_
        refine lv_icmp_ne (tgt := 69) hx hb dX6_readLine_53 (by decide) (fun c53 => ?_) (fun c53 => ?_)
        · replace hm := tn hm c53
          exact hJ69 v hm _ _ hP26 hD26 hS26 _ (lv_sub hl25 [0, 1] rfl)
        · replace hm := tp hm c53
          refine lv_aload_n hx hb dX6_readLine_56 rfl (lv_at hl25 1 rfl) ?_
          refine va_get (D := D) (ci := 6) (v := .int (v 0 13)) (C := RX6) (T := TX6) (N := 40) hx hb hW iX6 hown hK hP26 0 rfl rfl 13 (by decide) (hW _ k_880) (fun _ h => h) rfl dX6_readLine_57 ?_
          refine lv_iconst (v := (4 : Int32)) hx hb dX6_readLine_60 (by decide) ?_
          refine lv_icmp_ne (tgt := 69) hx hb dX6_readLine_61 (by decide) (fun c61 => ?_) (fun c61 => ?_)
          · replace hm := tn hm c61
            exact hJ69 v hm _ _ hP26 hD26 hS26 _ (lv_sub hl25 [0, 1] rfl)
          · replace hm := tp hm c61
            exact hJ64 () hm _ _ hP26 hD26 hS26 _ (lv_sub hl25 [0, 1] rfl)
      refine lv_icmp_ne (tgt := 50) hx hb dX6_readLine_39 (by decide) (fun c39 => ?_) (fun c39 => ?_)
      · replace hm := tn hm c39
        exact hJ50 () hm _ _ hP24 hD24 hS24 _ (lv_sub hl23 [0, 1] rfl)
      · replace hm := tp hm c39
        refine lv_aload_n hx hb dX6_readLine_42 rfl (lv_at hl23 1 rfl) ?_
        refine va_get (D := D) (ci := 6) (v := .int (v 0 12)) (C := RX6) (T := TX6) (N := 40) hx hb hW iX6 hown hK hP24 0 rfl rfl 12 (by decide) (hW _ k_879) (fun _ h => h) rfl dX6_readLine_43 ?_
        refine lv_iconst (v := (5 : Int32)) hx hb dX6_readLine_46 (by decide) ?_
        refine lv_icmp_eq (tgt := 64) hx hb dX6_readLine_47 (by decide) (fun c47 => ?_) (fun c47 => ?_)
        · replace hm := tp hm c47
          exact hJ64 () hm _ _ hP24 hD24 hS24 _ (lv_sub hl23 [0, 1] rfl)
        · replace hm := tn hm c47
          exact hJ50 () hm _ _ hP24 hD24 hS24 _ (lv_sub hl23 [0, 1] rfl)
    refine lv_icmp_gt (tgt := 36) hx hb dX6_readLine_25 (by decide) (fun c25 => ?_) (fun c25 => ?_)
    · replace hm := tp hm c25
      exact hJ36 () hm _ _ hP0 hD0 hS0 _ (lv_sub hl1 [0, 1] rfl)
    · replace hm := tn hm c25
      refine lv_aload_n hx hb dX6_readLine_28 rfl (lv_at hl1 1 rfl) ?_
      refine va_get (D := D) (ci := 6) (v := .int (v 0 11)) (C := RX6) (T := TX6) (N := 40) hx hb hW iX6 hown hK hP0 0 rfl rfl 11 (by decide) (hW _ k_878) (fun _ h => h) rfl dX6_readLine_29 ?_
      refine lv_iconst (v := (5 : Int32)) hx hb dX6_readLine_32 (by decide) ?_
      refine lv_icmp_eq (tgt := 64) hx hb dX6_readLine_33 (by decide) (fun c33 => ?_) (fun c33 => ?_)
      · replace hm := tp hm c33
        exact hJ64 () hm _ _ hP0 hD0 hS0 _ (lv_sub hl1 [0, 1] rfl)
      · replace hm := tn hm c33
        exact hJ36 () hm _ _ hP0 hD0 hS0 _ (lv_sub hl1 [0, 1] rfl)
  · replace hm := tp hm c14
    refine lv_aload_n hx hb dX6_readLine_17 rfl (lv_at hl1 1 rfl) ?_
    refine lv_iconst (v := (2 : Int32)) hx hb dX6_readLine_18 (by decide) ?_
    obtain ⟨y19, hy19, hm⟩ := bn hm
    refine cVWv (As := [.int (2 : Int32)]) (rest := []) (Wn := fun (uu : SV) => wX6 q a uu) X hP0 hD0 hS0 (fun _ h => Or.inr h) hl1.1 (c_X6_fails l D q s.heap.size a v (2 : Int32) y19 hy19) [0, 1, 2, 3, 4, 5, 6, 7, 8, 9, 10, 11, 12, 13, 14, 15, 16, 17] [] [0, 1, 2, 3, 4, 5, 6, 7, 8, 9, 10, 11, 12, 13, 14, 15, 16, 17] rfl (Wr := []) rfl (by decide) (by decide) (by decide) (by decide) (fun _ => rfl) 0 rfl rfl rfl k_1020 mX6_fails ⟨rfl, rfl⟩ ⟨Nat.le_of_ble_eq_true rfl, Nat.le_of_ble_eq_true rfl⟩ rfl rfl (Nat.le_of_ble_eq_true rfl) dX6_readLine_19 ⟨Nat.zero_le _, Nat.zero_le _⟩ (fun H2 locs2 hP hD hS2 => ?_)
    have hP2 : va_P D cls (wX6 q a y19) H2 := hP
    have hD2 : va_D (va_A (wX6 q a v) s.heap.size) (wX6 q a y19) := hD
    clear hP hD hP0 hD0 hS0
    exact eWv (Wf := fun (uu : SV) => wX6 q a uu) (u := y19) X hr hlocks hP2 hD2 hS2 hm dX6_readLine_22
noncomputable def m_X6_begins_K52 (z52 : Int32 × SV) : Option (SV) :=
  some z52.2
noncomputable def m_X6_begins_L52 (z52 : Int32 × SV) : Option ((Int32 × SV) ⊕ (Int32 × SV)) :=
  (if (63 : Int32) ≤ z52.1 then some (.inr (z52.1, z52.2)) else ck (inB z52.1 63) (lett (up2 z52.2 7 ((z52.1).toNatClampNeg) (0 : Int32)) (fun v17_ => some (.inl ((z52.1 + (1 : Int32)), v17_)))))
noncomputable def m_X6_begins (v : SV) : Option (SV) :=
  lett (up2 v 0 21 (0 : Int32)) (fun v1_ => lett (up2 v1_ 0 23 (0 : Int32)) (fun v2_ => lett (up2 v2_ 0 10 (4 : Int32)) (fun v3_ => lett (up2 v3_ 0 11 (0 : Int32)) (fun v4_ => lett (up2 v4_ 0 12 (0 : Int32)) (fun v5_ => lett (up2 v5_ 0 13 (0 : Int32)) (fun v6_ => lett (up2 v6_ 0 14 (0 : Int32)) (fun v7_ => lett (up2 v7_ 0 15 (0 : Int32)) (fun v8_ => lett (up2 v8_ 0 16 (-1 : Int32)) (fun v9_ => lett (up2 v9_ 0 17 (-1 : Int32)) (fun v10_ => (lpC (m_X6_begins_L52) ((0 : Int32), v10_)).bind (m_X6_begins_K52)))))))))))
set_option maxHeartbeats 4000000 in
set_option maxRecDepth 100000 in
theorem c_X6_begins (l : Launch) (D : va_G) (q : Nat → ClassId) (sz : Nat) (a : Nat → Nat) (v : SV) (res : SV) (hm : m_X6_begins v = some res) : Met l yX6_begins (mw yX6_begins cX6_begins 2 none) ({ frames := 0, cells := 0, slots := 0, locals := 0 } : Room) (pcW D q (wX6 q a v) sz [.ref (a 99)]) (va_Qv (fun w => w = res) (bW D q (wX6 q a v) sz (fun (uu : SV) => wX6 q a uu)) (va_A (wX6 q a v) sz)) 0 0 (va_A (wX6 q a v) sz) := by
  refine Met.ofW (cc := cX6_begins) (maxL := 2) (ret := none) (by decide) rfl ?_
  intro p e s m args below meth c s₁ B hml hv
  obtain ⟨rfl, hsz, hP0, hK, hD0⟩ := hv
  have hx := B.exec
  have hb := B.bytes
  have hr := B.returns
  have hW := mw_ws (atoms_spec (ws := mw yX6_begins cX6_begins 2 none) B.pre)
  have hown : s.vm.findClass RX6 = some m.cls := findClass_of_methodNamed B.named
  have hlocks := B.notSynchronized
  have X : Cx p s m [.ref (a 99)].toArray c cX6_begins 2 RX6 D q := ⟨hx, hb, hml, hown, hW, hK⟩
  subst hsz
  replace hD0 := hD0.self (sz := s.heap.size)
  have hS0 : va_S (va_A (wX6 q a v) s.heap.size) s.heap s.heap [] := va_S.rf
  have hl0 := lv_entry ([.ref (a 99)]) (n := 2) (Nat.le_of_ble_eq_true rfl)
  rw [lg_entry_eq]
  generalize (lg_sl ([.ref (a 99)]) ++ List.replicate (2 - (lg_sl ([.ref (a 99)])).length) Slot.unset).toArray = ls0 at hl0 ⊢
  have hl0 : lv_has ls0 2 [(0, .ref (a 99))] := hl0
  unfold m_X6_begins at hm
  refine lv_aload_n hx hb dX6_begins_0 rfl (lv_at hl0 0 rfl) ?_
  refine lv_iconst (v := (0 : Int32)) hx hb dX6_begins_1 (by decide) ?_
  refine va_put (D := D) (ci := 6) (v := .int (0 : Int32)) (ty := .int) (C := RX6) (T := TX6) (N := 40) hx hb hW iX6 tyX6 tyX6_ok nmX6 hown hK hP0 hD0 hS0 0 rfl rfl 21 (by decide) (hW _ k_888) (fun _ h => h) rfl (by decide +kernel) rfl rfl (Nat.le_of_ble_eq_true rfl) dX6_begins_2 (fun H1 locs1 hP hD hS1 => ?_)
  obtain ⟨v1_, e1, hm⟩ := ltd hm
  have hP1 : va_P D cls (wX6 q a v1_) H1 := by rw [e1]; exact hP
  have hD1 : va_D (va_A (wX6 q a v) s.heap.size) (wX6 q a v1_) := by rw [e1]; exact hD
  clear hP hD hP0 hD0 hS0
  refine lv_aload_n hx hb dX6_begins_5 rfl (lv_at hl0 0 rfl) ?_
  refine lv_iconst (v := (0 : Int32)) hx hb dX6_begins_6 (by decide) ?_
  refine va_put (D := D) (ci := 6) (v := .int (0 : Int32)) (ty := .int) (C := RX6) (T := TX6) (N := 40) hx hb hW iX6 tyX6 tyX6_ok nmX6 hown hK hP1 hD1 hS1 0 rfl rfl 23 (by decide) (hW _ k_890) (fun _ h => h) rfl (by decide +kernel) rfl rfl (Nat.le_of_ble_eq_true rfl) dX6_begins_7 (fun H2 locs2 hP hD hS2 => ?_)
  obtain ⟨v2_, e2, hm⟩ := ltd hm
  have hP2 : va_P D cls (wX6 q a v2_) H2 := by rw [e2]; exact hP
  have hD2 : va_D (va_A (wX6 q a v) s.heap.size) (wX6 q a v2_) := by rw [e2]; exact hD
  clear hP hD hP1 hD1 hS1
  refine lv_aload_n hx hb dX6_begins_10 rfl (lv_at hl0 0 rfl) ?_
  refine lv_iconst (v := (4 : Int32)) hx hb dX6_begins_11 (by decide) ?_
  refine va_put (D := D) (ci := 6) (v := .int (4 : Int32)) (ty := .int) (C := RX6) (T := TX6) (N := 40) hx hb hW iX6 tyX6 tyX6_ok nmX6 hown hK hP2 hD2 hS2 0 rfl rfl 10 (by decide) (hW _ k_877) (fun _ h => h) rfl (by decide +kernel) rfl rfl (Nat.le_of_ble_eq_true rfl) dX6_begins_12 (fun H3 locs3 hP hD hS3 => ?_)
  obtain ⟨v3_, e3, hm⟩ := ltd hm
  have hP3 : va_P D cls (wX6 q a v3_) H3 := by rw [e3]; exact hP
  have hD3 : va_D (va_A (wX6 q a v) s.heap.size) (wX6 q a v3_) := by rw [e3]; exact hD
  clear hP hD hP2 hD2 hS2
  refine lv_aload_n hx hb dX6_begins_15 rfl (lv_at hl0 0 rfl) ?_
  refine lv_iconst (v := (0 : Int32)) hx hb dX6_begins_16 (by decide) ?_
  refine va_put (D := D) (ci := 6) (v := .int (0 : Int32)) (ty := .int) (C := RX6) (T := TX6) (N := 40) hx hb hW iX6 tyX6 tyX6_ok nmX6 hown hK hP3 hD3 hS3 0 rfl rfl 11 (by decide) (hW _ k_878) (fun _ h => h) rfl (by decide +kernel) rfl rfl (Nat.le_of_ble_eq_true rfl) dX6_begins_17 (fun H4 locs4 hP hD hS4 => ?_)
  obtain ⟨v4_, e4, hm⟩ := ltd hm
  have hP4 : va_P D cls (wX6 q a v4_) H4 := by rw [e4]; exact hP
  have hD4 : va_D (va_A (wX6 q a v) s.heap.size) (wX6 q a v4_) := by rw [e4]; exact hD
  clear hP hD hP3 hD3 hS3
  refine lv_aload_n hx hb dX6_begins_20 rfl (lv_at hl0 0 rfl) ?_
  refine lv_iconst (v := (0 : Int32)) hx hb dX6_begins_21 (by decide) ?_
  refine va_put (D := D) (ci := 6) (v := .int (0 : Int32)) (ty := .int) (C := RX6) (T := TX6) (N := 40) hx hb hW iX6 tyX6 tyX6_ok nmX6 hown hK hP4 hD4 hS4 0 rfl rfl 12 (by decide) (hW _ k_879) (fun _ h => h) rfl (by decide +kernel) rfl rfl (Nat.le_of_ble_eq_true rfl) dX6_begins_22 (fun H5 locs5 hP hD hS5 => ?_)
  obtain ⟨v5_, e5, hm⟩ := ltd hm
  have hP5 : va_P D cls (wX6 q a v5_) H5 := by rw [e5]; exact hP
  have hD5 : va_D (va_A (wX6 q a v) s.heap.size) (wX6 q a v5_) := by rw [e5]; exact hD
  clear hP hD hP4 hD4 hS4
  refine lv_aload_n hx hb dX6_begins_25 rfl (lv_at hl0 0 rfl) ?_
  refine lv_iconst (v := (0 : Int32)) hx hb dX6_begins_26 (by decide) ?_
  refine va_put (D := D) (ci := 6) (v := .int (0 : Int32)) (ty := .int) (C := RX6) (T := TX6) (N := 40) hx hb hW iX6 tyX6 tyX6_ok nmX6 hown hK hP5 hD5 hS5 0 rfl rfl 13 (by decide) (hW _ k_880) (fun _ h => h) rfl (by decide +kernel) rfl rfl (Nat.le_of_ble_eq_true rfl) dX6_begins_27 (fun H6 locs6 hP hD hS6 => ?_)
  obtain ⟨v6_, e6, hm⟩ := ltd hm
  have hP6 : va_P D cls (wX6 q a v6_) H6 := by rw [e6]; exact hP
  have hD6 : va_D (va_A (wX6 q a v) s.heap.size) (wX6 q a v6_) := by rw [e6]; exact hD
  clear hP hD hP5 hD5 hS5
  refine lv_aload_n hx hb dX6_begins_30 rfl (lv_at hl0 0 rfl) ?_
  refine lv_iconst (v := (0 : Int32)) hx hb dX6_begins_31 (by decide) ?_
  refine va_put (D := D) (ci := 6) (v := .int (0 : Int32)) (ty := .boolean) (C := RX6) (T := TX6) (N := 40) hx hb hW iX6 tyX6 tyX6_ok nmX6 hown hK hP6 hD6 hS6 0 rfl rfl 14 (by decide) (hW _ k_881) (fun _ h => h) rfl (by decide +kernel) rfl rfl (Nat.le_of_ble_eq_true rfl) dX6_begins_32 (fun H7 locs7 hP hD hS7 => ?_)
  obtain ⟨v7_, e7, hm⟩ := ltd hm
  have hP7 : va_P D cls (wX6 q a v7_) H7 := by rw [e7]; exact hP
  have hD7 : va_D (va_A (wX6 q a v) s.heap.size) (wX6 q a v7_) := by rw [e7]; exact hD
  clear hP hD hP6 hD6 hS6
  refine lv_aload_n hx hb dX6_begins_35 rfl (lv_at hl0 0 rfl) ?_
  refine lv_iconst (v := (0 : Int32)) hx hb dX6_begins_36 (by decide) ?_
  refine va_put (D := D) (ci := 6) (v := .int (0 : Int32)) (ty := .int) (C := RX6) (T := TX6) (N := 40) hx hb hW iX6 tyX6 tyX6_ok nmX6 hown hK hP7 hD7 hS7 0 rfl rfl 15 (by decide) (hW _ k_882) (fun _ h => h) rfl (by decide +kernel) rfl rfl (Nat.le_of_ble_eq_true rfl) dX6_begins_37 (fun H8 locs8 hP hD hS8 => ?_)
  obtain ⟨v8_, e8, hm⟩ := ltd hm
  have hP8 : va_P D cls (wX6 q a v8_) H8 := by rw [e8]; exact hP
  have hD8 : va_D (va_A (wX6 q a v) s.heap.size) (wX6 q a v8_) := by rw [e8]; exact hD
  clear hP hD hP7 hD7 hS7
  refine lv_aload_n hx hb dX6_begins_40 rfl (lv_at hl0 0 rfl) ?_
  refine lv_iconst (v := (-1 : Int32)) hx hb dX6_begins_41 (by decide) ?_
  refine va_put (D := D) (ci := 6) (v := .int (-1 : Int32)) (ty := .int) (C := RX6) (T := TX6) (N := 40) hx hb hW iX6 tyX6 tyX6_ok nmX6 hown hK hP8 hD8 hS8 0 rfl rfl 16 (by decide) (hW _ k_883) (fun _ h => h) rfl (by decide +kernel) rfl rfl (Nat.le_of_ble_eq_true rfl) dX6_begins_42 (fun H9 locs9 hP hD hS9 => ?_)
  obtain ⟨v9_, e9, hm⟩ := ltd hm
  have hP9 : va_P D cls (wX6 q a v9_) H9 := by rw [e9]; exact hP
  have hD9 : va_D (va_A (wX6 q a v) s.heap.size) (wX6 q a v9_) := by rw [e9]; exact hD
  clear hP hD hP8 hD8 hS8
  refine lv_aload_n hx hb dX6_begins_45 rfl (lv_at hl0 0 rfl) ?_
  refine lv_iconst (v := (-1 : Int32)) hx hb dX6_begins_46 (by decide) ?_
  refine va_put (D := D) (ci := 6) (v := .int (-1 : Int32)) (ty := .int) (C := RX6) (T := TX6) (N := 40) hx hb hW iX6 tyX6 tyX6_ok nmX6 hown hK hP9 hD9 hS9 0 rfl rfl 17 (by decide) (hW _ k_884) (fun _ h => h) rfl (by decide +kernel) rfl rfl (Nat.le_of_ble_eq_true rfl) dX6_begins_47 (fun H10 locs10 hP hD hS10 => ?_)
  obtain ⟨v10_, e10, hm⟩ := ltd hm
  have hP10 : va_P D cls (wX6 q a v10_) H10 := by rw [e10]; exact hP
  have hD10 : va_D (va_A (wX6 q a v) s.heap.size) (wX6 q a v10_) := by rw [e10]; exact hD
  clear hP hD hP9 hD9 hS9
  refine lv_iconst (v := (0 : Int32)) hx hb dX6_begins_50 (by decide) ?_
  refine lv_istore_n (lv' := [(1, .int (0 : Int32)), (0, .ref (a 99))]) hx hb dX6_begins_51 rfl hl0 (by decide) rfl (fun ls11 hl11 => ?_)
  clear hl0
  obtain ⟨r52, hr52, hm⟩ := bn hm
  obtain ⟨n52, hn52⟩ := lpC_ex hr52
  have hE52 : ∀ z52 : Int32 × SV, m_X6_begins_K52 z52 = some res → ∀ (H : Heap) (locs : List Loc), va_P D cls (wX6 q a z52.2) H → va_D (va_A (wX6 q a v) s.heap.size) (wX6 q a z52.2) → va_S (va_A (wX6 q a v) s.heap.size) s.heap H locs → ∀ ls : Array Slot, lv_has ls 2 [] → W p l e ((headSpec (mw yX6_begins cX6_begins 2 none) ({ frames := 0, cells := 0, slots := 0, locals := 0 } : Room)).room) s m [.ref (a 99)].toArray below meth c H locs 0 0 (MQ below (va_Qv (fun w => w = res) (bW D q (wX6 q a v) s.heap.size (fun (uu : SV) => wX6 q a uu)) (va_A (wX6 q a v) s.heap.size)) [.ref (a 99)].toArray s 0 0 (va_A (wX6 q a v) s.heap.size)) (F0 m 71 ls []) := by
    intro z52 hm H15 locs15 hP15 hD15 hS15 ls14 hl14
    unfold m_X6_begins_K52 at hm
    exact eWv (Wf := fun (uu : SV) => wX6 q a uu) (u := z52.2) X hr hlocks hP15 hD15 hS15 hm dX6_begins_71
  have hL52 : ∀ (n : Nat) (z52 : Int32 × SV) (ρ52 : Int32 × SV), lpO (m_X6_begins_L52) n z52 = some ρ52 → (m_X6_begins_K52) ρ52 = some res → ∀ (H : Heap) (locs : List Loc), va_P D cls (wX6 q a z52.2) H → va_D (va_A (wX6 q a v) s.heap.size) (wX6 q a z52.2) → va_S (va_A (wX6 q a v) s.heap.size) s.heap H locs → ∀ ls : Array Slot, lv_has ls 2 [(0, .ref (a 99)), (1, .int z52.1)] → W p l e ((headSpec (mw yX6_begins cX6_begins 2 none) ({ frames := 0, cells := 0, slots := 0, locals := 0 } : Room)).room) s m [.ref (a 99)].toArray below meth c H locs 0 0 (MQ below (va_Qv (fun w => w = res) (bW D q (wX6 q a v) s.heap.size (fun (uu : SV) => wX6 q a uu)) (va_A (wX6 q a v) s.heap.size)) [.ref (a 99)].toArray s 0 0 (va_A (wX6 q a v) s.heap.size)) (F0 m 52 ls []) := by
    intro n
    induction n with
    | zero => intro _ _ h; cases h
    | succ n ih52 =>
      intro z52 ρ52 hz52 hK52 H13 locs13 hP13 hD13 hS13 ls12 hl12
      obtain ⟨t52, hm, hz52⟩ := bn hz52
      unfold m_X6_begins_L52 at hm
      refine lv_iload_n hx hb dX6_begins_52 rfl (lv_at hl12 1 rfl) ?_
      refine lv_bipush (v := (63 : Int32)) hx hb dX6_begins_53 (by decide) ?_
      refine lv_icmp_ge (tgt := 71) hx hb dX6_begins_55 (by decide) (fun c55 => ?_) (fun c55 => ?_)
      · replace hm := tp hm c55
        cases hm
        cases hz52
        exact hE52 (z52.1, z52.2) hK52 _ _ hP13 hD13 hS13 _ (lv_sub hl12 [] rfl)
      · replace hm := tn hm c55
        refine lv_aload_n hx hb dX6_begins_58 rfl (lv_at hl12 0 rfl) ?_
        refine va_get (D := D) (ci := 6) (v := .ref (a 7)) (C := RX6) (T := TX6) (N := 40) hx hb hW iX6 hown hK hP13 0 rfl rfl 7 (by decide) (hW _ k_874) (fun _ h => h) rfl dX6_begins_59 ?_
        refine lv_iload_n hx hb dX6_begins_62 rfl (lv_at hl12 1 rfl) ?_
        refine lv_iconst (v := (0 : Int32)) hx hb dX6_begins_63 (by decide) ?_
        obtain ⟨h16, hm⟩ := ckd hm
        refine va_iast (f := (z52.2 7)) hx hb hK hP13 hD13 hS13 4 0 rfl rfl (inB_vp h16) dX6_begins_64 (fun H17 locs17 hP hD hS17 => ?_)
        obtain ⟨v17_, e17, hm⟩ := ltd hm
        have hP17 : va_P D cls (wX6 q a v17_) H17 := by rw [e17]; exact hP
        have hD17 : va_D (va_A (wX6 q a v) s.heap.size) (wX6 q a v17_) := by rw [e17]; exact hD
        clear hP hD hP13 hD13 hS13
        refine lv_iinc (v := (z52.1 + (1 : Int32))) (lv' := [(1, .int (z52.1 + (1 : Int32))), (0, .ref (a 99))]) hx hb dX6_begins_65 hl12 (k := 1) rfl rfl (by decide) rfl (fun ls18 hl18 => ?_)
        clear hl12
        refine lv_goto (tgt := 52) hx hb dX6_begins_68 (by decide) ?_
        cases hm
        exact ih52 ((z52.1 + (1 : Int32)), v17_) ρ52 hz52 hK52 _ _ hP17 hD17 hS17 _ (lv_sub hl18 [1, 0] rfl)
  exact hL52 n52 ((0 : Int32), v10_) r52 hn52 hm _ _ hP10 hD10 hS10 _ (lv_sub hl11 [1, 0] rfl)
noncomputable def m_X6_text_K99 (z10 : Int32 × SV) (z99 : Int32 × SV) : Option (Int32 × SV) :=
  lett (up2 z99.2 0 1 (z99.2 0 10)) (fun v17_ => lett (up2 v17_ 0 2 (v17_ 0 11)) (fun v18_ => lett (up2 v18_ 0 4 (v18_ 0 12)) (fun v19_ => lett (up2 v19_ 0 6 (v19_ 0 13)) (fun v20_ => lett (up2 v20_ 0 32 (0 : Int32)) (fun v21_ => lett (up2 v21_ 35 (Int32.toNatClampNeg (0 : Int32)) (vp_nar .boolean (0 : Int32))) (fun v22_ => lett (up2 v22_ 35 (Int32.toNatClampNeg (1 : Int32)) (vp_nar .boolean (0 : Int32))) (fun v23_ => some (z10.1, v23_))))))))
noncomputable def m_X6_text_L99 (z99 : Int32 × SV) : Option ((Int32 × SV) ⊕ (Int32 × SV)) :=
  (if (63 : Int32) ≤ z99.1 then some (.inr (z99.1, z99.2)) else ck (inB z99.1 63) (ck (inB z99.1 315) (lett (up2 z99.2 50 ((z99.1).toNatClampNeg) (z99.2 7 ((z99.1).toNatClampNeg))) (fun v26_ => ck (inB (z99.1 - z99.1 / (10 : Int32) * (10 : Int32)) 10) (ck (inB (z99.1 - z99.1 / (10 : Int32) * (10 : Int32)) 10) (lett (up2 v26_ 3 (((z99.1 - z99.1 / (10 : Int32) * (10 : Int32))).toNatClampNeg) (v26_ 8 (((z99.1 - z99.1 / (10 : Int32) * (10 : Int32))).toNatClampNeg))) (fun v29_ => ck (inB (z99.1 - z99.1 / (4 : Int32) * (4 : Int32)) 4) (ck (inB (z99.1 - z99.1 / (4 : Int32) * (4 : Int32)) 4) (lett (up2 v29_ 5 (((z99.1 - z99.1 / (4 : Int32) * (4 : Int32))).toNatClampNeg) (v29_ 9 (((z99.1 - z99.1 / (4 : Int32) * (4 : Int32))).toNatClampNeg))) (fun v32_ => some (.inl ((z99.1 + (1 : Int32)), v32_))))))))))))
noncomputable def m_X6_text_J69 (z10 : Int32 × SV) (z69 : SV) : Option (Int32 × SV) :=
  lett (up2 z69 0 19 (0 : Int32)) (fun v10_ => lett (up2 v10_ 0 20 (v10_ 0 21)) (fun v11_ => (if (v11_ 0 21) ≤ 0 then (lpC (m_X6_text_L99) ((0 : Int32), v11_)).bind (m_X6_text_K99 z10) else some (((-10 : Int32) - (v11_ 0 22)), v11_))))
noncomputable def m_X6_text_J63 (z10 : Int32 × SV) (z63 : Unit) : Option (Int32 × SV) :=
  (m_X6_fails z10.2 (6 : Int32)).bind (fun y66 => m_X6_text_J69 z10 y66)
noncomputable def m_X6_text_K10 (z10 : Int32 × SV) : Option (Int32 × SV) :=
  (if (z10.2 0 21) = 0 then (if (z10.2 0 10) ≤ (z10.2 0 16) then m_X6_text_J63 z10 () else (if (z10.2 0 17) < (z10.2 0 11) then m_X6_text_J69 z10 z10.2 else m_X6_text_J63 z10 ())) else m_X6_text_J69 z10 z10.2)
noncomputable def m_X6_text_L10 (z10 : Int32 × SV) : Option ((Int32 × SV) ⊕ (Int32 × SV)) :=
  (if (z10.2 0 21) = 0 then (if (z10.2 0 25) = 0 then some (.inr (z10.1, z10.2)) else (m_X6_readLine z10.2).bind (fun y25 => some (.inl ((z10.1 + (1 : Int32)), y25)))) else some (.inr (z10.1, z10.2)))
noncomputable def m_X6_text (v : SV) : Option (Int32 × SV) :=
  (m_X6_begins v).bind (fun y3 => (m_X6_step y3).bind (fun y7 => (lpC (m_X6_text_L10) ((0 : Int32), y7)).bind (m_X6_text_K10)))
set_option maxHeartbeats 4000000 in
set_option maxRecDepth 100000 in
theorem c_X6_text (l : Launch) (D : va_G) (q : Nat → ClassId) (sz : Nat) (a : Nat → Nat) (v : SV) (res : Int32 × SV) (hm : m_X6_text v = some res) : Met l yX6_text (mw yX6_text cX6_text 3 (some .int)) ({ frames := 7, cells := 0, slots := 0, locals := 156 } : Room) (pcW D q (wX6 q a v) sz [.ref (a 99)]) (va_Qi (fun r w => r = res.1 ∧ w = res.2) (bW D q (wX6 q a v) sz (fun (uu : SV) => wX6 q a uu)) (va_A (wX6 q a v) sz)) 0 0 (va_A (wX6 q a v) sz) := by
  refine Met.ofW (cc := cX6_text) (maxL := 3) (ret := (some .int)) (by decide) rfl ?_
  intro p e s m args below meth c s₁ B hml hv
  obtain ⟨rfl, hsz, hP0, hK, hD0⟩ := hv
  have hx := B.exec
  have hb := B.bytes
  have hr := B.returns
  have hW := mw_ws (atoms_spec (ws := mw yX6_text cX6_text 3 (some .int)) B.pre)
  have hown : s.vm.findClass RX6 = some m.cls := findClass_of_methodNamed B.named
  have hlocks := B.notSynchronized
  have X : Cx p s m [.ref (a 99)].toArray c cX6_text 3 RX6 D q := ⟨hx, hb, hml, hown, hW, hK⟩
  subst hsz
  replace hD0 := hD0.self (sz := s.heap.size)
  have hS0 : va_S (va_A (wX6 q a v) s.heap.size) s.heap s.heap [] := va_S.rf
  have hl0 := lv_entry ([.ref (a 99)]) (n := 3) (Nat.le_of_ble_eq_true rfl)
  rw [lg_entry_eq]
  generalize (lg_sl ([.ref (a 99)]) ++ List.replicate (3 - (lg_sl ([.ref (a 99)])).length) Slot.unset).toArray = ls0 at hl0 ⊢
  have hl0 : lv_has ls0 3 [(0, .ref (a 99))] := hl0
  unfold m_X6_text at hm
  refine lv_iconst (v := (0 : Int32)) hx hb dX6_text_0 (by decide) ?_
  refine lv_istore_n (lv' := [(1, .int (0 : Int32)), (0, .ref (a 99))]) hx hb dX6_text_1 rfl hl0 (by decide) rfl (fun ls1 hl1 => ?_)
  clear hl0
  refine lv_aload_n hx hb dX6_text_2 rfl (lv_at hl1 1 rfl) ?_
  obtain ⟨y3, hy3, hm⟩ := bn hm
  refine cVWv (As := []) (rest := []) (Wn := fun (uu : SV) => wX6 q a uu) X hP0 hD0 hS0 (fun _ h => Or.inr h) hl1.1 (c_X6_begins l D q s.heap.size a v y3 hy3) [0, 1, 2, 3, 4, 5, 6, 7, 8, 9, 10, 11, 12, 13, 14, 15, 16, 17] [] [0, 1, 2, 3, 4, 5, 6, 7, 8, 9, 10, 11, 12, 13, 14, 15, 16, 17] rfl (Wr := []) rfl (by decide) (by decide) (by decide) (by decide) (fun _ => rfl) 0 rfl rfl rfl k_1004 mX6_begins ⟨rfl, rfl⟩ ⟨Nat.le_of_ble_eq_true rfl, Nat.le_of_ble_eq_true rfl⟩ rfl rfl (Nat.le_of_ble_eq_true rfl) dX6_text_3 ⟨Nat.zero_le _, Nat.zero_le _⟩ (fun H2 locs2 hP hD hS2 => ?_)
  have hP2 : va_P D cls (wX6 q a y3) H2 := hP
  have hD2 : va_D (va_A (wX6 q a v) s.heap.size) (wX6 q a y3) := hD
  clear hP hD hP0 hD0 hS0
  refine lv_aload_n hx hb dX6_text_6 rfl (lv_at hl1 1 rfl) ?_
  obtain ⟨y7, hy7, hm⟩ := bn hm
  refine cVWv (As := []) (rest := []) (Wn := fun (uu : SV) => wX6 q a uu) X hP2 hD2 hS2 (fun _ h => Or.inr h) hl1.1 (c_X6_step l D q H2.size a y3 y7 hy7) [0, 1, 2, 3, 4, 5, 6, 7, 8, 9, 10, 11, 12, 13, 14, 15, 16, 17] [] [0, 1, 2, 3, 4, 5, 6, 7, 8, 9, 10, 11, 12, 13, 14, 15, 16, 17] rfl (Wr := []) rfl (by decide) (by decide) (by decide) (by decide) (fun _ => rfl) 0 rfl rfl rfl k_1008 mX6_step ⟨rfl, rfl⟩ ⟨Nat.le_of_ble_eq_true rfl, Nat.le_of_ble_eq_true rfl⟩ rfl rfl (Nat.le_of_ble_eq_true rfl) dX6_text_7 ⟨Nat.zero_le _, Nat.zero_le _⟩ (fun H3 locs3 hP hD hS3 => ?_)
  have hP3 : va_P D cls (wX6 q a y7) H3 := hP
  have hD3 : va_D (va_A (wX6 q a v) s.heap.size) (wX6 q a y7) := hD
  clear hP hD hP2 hD2 hS2
  obtain ⟨r10, hr10, hm⟩ := bn hm
  obtain ⟨n10, hn10⟩ := lpC_ex hr10
  have hE10 : ∀ z10 : Int32 × SV, m_X6_text_K10 z10 = some res → ∀ (H : Heap) (locs : List Loc), va_P D cls (wX6 q a z10.2) H → va_D (va_A (wX6 q a v) s.heap.size) (wX6 q a z10.2) → va_S (va_A (wX6 q a v) s.heap.size) s.heap H locs → ∀ ls : Array Slot, lv_has ls 3 [(0, .ref (a 99)), (1, .int z10.1)] → W p l e ((headSpec (mw yX6_text cX6_text 3 (some .int)) ({ frames := 7, cells := 0, slots := 0, locals := 156 } : Room)).room) s m [.ref (a 99)].toArray below meth c H locs 0 0 (MQ below (va_Qi (fun r w => r = res.1 ∧ w = res.2) (bW D q (wX6 q a v) s.heap.size (fun (uu : SV) => wX6 q a uu)) (va_A (wX6 q a v) s.heap.size)) [.ref (a 99)].toArray s 0 0 (va_A (wX6 q a v) s.heap.size)) (F0 m 34 ls []) := by
    intro z10 hm H7 locs7 hP7 hD7 hS7 ls6 hl6
    unfold m_X6_text_K10 at hm
    refine lv_aload_n hx hb dX6_text_34 rfl (lv_at hl6 0 rfl) ?_
    refine va_get (D := D) (ci := 6) (v := .int (z10.2 0 21)) (C := RX6) (T := TX6) (N := 40) hx hb hW iX6 hown hK hP7 0 rfl rfl 21 (by decide) (hW _ k_888) (fun _ h => h) rfl dX6_text_35 ?_
    have hJ69 : ∀ z69 : SV, m_X6_text_J69 z10 z69 = some res → ∀ (H : Heap) (locs : List Loc), va_P D cls (wX6 q a z69) H → va_D (va_A (wX6 q a v) s.heap.size) (wX6 q a z69) → va_S (va_A (wX6 q a v) s.heap.size) s.heap H locs → ∀ ls : Array Slot, lv_has ls 3 [(0, .ref (a 99)), (1, .int z10.1)] → W p l e ((headSpec (mw yX6_text cX6_text 3 (some .int)) ({ frames := 7, cells := 0, slots := 0, locals := 156 } : Room)).room) s m [.ref (a 99)].toArray below meth c H locs 0 0 (MQ below (va_Qi (fun r w => r = res.1 ∧ w = res.2) (bW D q (wX6 q a v) s.heap.size (fun (uu : SV) => wX6 q a uu)) (va_A (wX6 q a v) s.heap.size)) [.ref (a 99)].toArray s 0 0 (va_A (wX6 q a v) s.heap.size)) (F0 m 69 ls []) := by
      intro z69 hm H9 locs9 hP9 hD9 hS9 ls8 hl8
      unfold m_X6_text_J69 at hm
      refine lv_aload_n hx hb dX6_text_69 rfl (lv_at hl8 0 rfl) ?_
      refine lv_iconst (v := (0 : Int32)) hx hb dX6_text_70 (by decide) ?_
      refine va_put (D := D) (ci := 6) (v := .int (0 : Int32)) (ty := .int) (C := RX6) (T := TX6) (N := 40) hx hb hW iX6 tyX6 tyX6_ok nmX6 hown hK hP9 hD9 hS9 0 rfl rfl 19 (by decide) (hW _ k_886) (fun _ h => h) rfl (by decide +kernel) rfl rfl (Nat.le_of_ble_eq_true rfl) dX6_text_71 (fun H10 locs10 hP hD hS10 => ?_)
      obtain ⟨v10_, e10, hm⟩ := ltd hm
      have hP10 : va_P D cls (wX6 q a v10_) H10 := by rw [e10]; exact hP
      have hD10 : va_D (va_A (wX6 q a v) s.heap.size) (wX6 q a v10_) := by rw [e10]; exact hD
      clear hP hD hP9 hD9 hS9
      refine lv_aload_n hx hb dX6_text_74 rfl (lv_at hl8 0 rfl) ?_
      refine lv_aload_n hx hb dX6_text_75 rfl (lv_at hl8 0 rfl) ?_
      refine va_get (D := D) (ci := 6) (v := .int (v10_ 0 21)) (C := RX6) (T := TX6) (N := 40) hx hb hW iX6 hown hK hP10 0 rfl rfl 21 (by decide) (hW _ k_888) (fun _ h => h) rfl dX6_text_76 ?_
      refine va_put (D := D) (ci := 6) (v := .int (v10_ 0 21)) (ty := .int) (C := RX6) (T := TX6) (N := 40) hx hb hW iX6 tyX6 tyX6_ok nmX6 hown hK hP10 hD10 hS10 0 rfl rfl 20 (by decide) (hW _ k_887) (fun _ h => h) rfl (by decide +kernel) rfl rfl (Nat.le_of_ble_eq_true rfl) dX6_text_79 (fun H11 locs11 hP hD hS11 => ?_)
      obtain ⟨v11_, e11, hm⟩ := ltd hm
      have hP11 : va_P D cls (wX6 q a v11_) H11 := by rw [e11]; exact hP
      have hD11 : va_D (va_A (wX6 q a v) s.heap.size) (wX6 q a v11_) := by rw [e11]; exact hD
      clear hP hD hP10 hD10 hS10
      refine lv_aload_n hx hb dX6_text_82 rfl (lv_at hl8 0 rfl) ?_
      refine va_get (D := D) (ci := 6) (v := .int (v11_ 0 21)) (C := RX6) (T := TX6) (N := 40) hx hb hW iX6 hown hK hP11 0 rfl rfl 21 (by decide) (hW _ k_888) (fun _ h => h) rfl dX6_text_83 ?_
      refine lv_if_le (tgt := 97) hx hb dX6_text_86 (by decide) (fun c86 => ?_) (fun c86 => ?_)
      · replace hm := tp hm c86
        refine lv_iconst (v := (0 : Int32)) hx hb dX6_text_97 (by decide) ?_
        refine lv_istore_n (lv' := [(2, .int (0 : Int32)), (0, .ref (a 99)), (1, .int z10.1)]) hx hb dX6_text_98 rfl hl8 (by decide) rfl (fun ls12 hl12 => ?_)
        clear hl8
        obtain ⟨r99, hr99, hm⟩ := bn hm
        obtain ⟨n99, hn99⟩ := lpC_ex hr99
        have hE99 : ∀ z99 : Int32 × SV, m_X6_text_K99 z10 z99 = some res → ∀ (H : Heap) (locs : List Loc), va_P D cls (wX6 q a z99.2) H → va_D (va_A (wX6 q a v) s.heap.size) (wX6 q a z99.2) → va_S (va_A (wX6 q a v) s.heap.size) s.heap H locs → ∀ ls : Array Slot, lv_has ls 3 [(0, .ref (a 99)), (1, .int z10.1)] → W p l e ((headSpec (mw yX6_text cX6_text 3 (some .int)) ({ frames := 7, cells := 0, slots := 0, locals := 156 } : Room)).room) s m [.ref (a 99)].toArray below meth c H locs 0 0 (MQ below (va_Qi (fun r w => r = res.1 ∧ w = res.2) (bW D q (wX6 q a v) s.heap.size (fun (uu : SV) => wX6 q a uu)) (va_A (wX6 q a v) s.heap.size)) [.ref (a 99)].toArray s 0 0 (va_A (wX6 q a v) s.heap.size)) (F0 m 157 ls []) := by
          intro z99 hm H16 locs16 hP16 hD16 hS16 ls15 hl15
          unfold m_X6_text_K99 at hm
          refine lv_aload_n hx hb dX6_text_157 rfl (lv_at hl15 0 rfl) ?_
          refine lv_aload_n hx hb dX6_text_158 rfl (lv_at hl15 0 rfl) ?_
          refine va_get (D := D) (ci := 6) (v := .int (z99.2 0 10)) (C := RX6) (T := TX6) (N := 40) hx hb hW iX6 hown hK hP16 0 rfl rfl 10 (by decide) (hW _ k_877) (fun _ h => h) rfl dX6_text_159 ?_
          refine va_put (D := D) (ci := 6) (v := .int (z99.2 0 10)) (ty := .int) (C := RX6) (T := TX6) (N := 40) hx hb hW iX6 tyX6 tyX6_ok nmX6 hown hK hP16 hD16 hS16 0 rfl rfl 1 (by decide) (hW _ k_868) (fun _ h => h) rfl (by decide +kernel) rfl rfl (Nat.le_of_ble_eq_true rfl) dX6_text_162 (fun H17 locs17 hP hD hS17 => ?_)
          obtain ⟨v17_, e17, hm⟩ := ltd hm
          have hP17 : va_P D cls (wX6 q a v17_) H17 := by rw [e17]; exact hP
          have hD17 : va_D (va_A (wX6 q a v) s.heap.size) (wX6 q a v17_) := by rw [e17]; exact hD
          clear hP hD hP16 hD16 hS16
          refine lv_aload_n hx hb dX6_text_165 rfl (lv_at hl15 0 rfl) ?_
          refine lv_aload_n hx hb dX6_text_166 rfl (lv_at hl15 0 rfl) ?_
          refine va_get (D := D) (ci := 6) (v := .int (v17_ 0 11)) (C := RX6) (T := TX6) (N := 40) hx hb hW iX6 hown hK hP17 0 rfl rfl 11 (by decide) (hW _ k_878) (fun _ h => h) rfl dX6_text_167 ?_
          refine va_put (D := D) (ci := 6) (v := .int (v17_ 0 11)) (ty := .int) (C := RX6) (T := TX6) (N := 40) hx hb hW iX6 tyX6 tyX6_ok nmX6 hown hK hP17 hD17 hS17 0 rfl rfl 2 (by decide) (hW _ k_869) (fun _ h => h) rfl (by decide +kernel) rfl rfl (Nat.le_of_ble_eq_true rfl) dX6_text_170 (fun H18 locs18 hP hD hS18 => ?_)
          obtain ⟨v18_, e18, hm⟩ := ltd hm
          have hP18 : va_P D cls (wX6 q a v18_) H18 := by rw [e18]; exact hP
          have hD18 : va_D (va_A (wX6 q a v) s.heap.size) (wX6 q a v18_) := by rw [e18]; exact hD
          clear hP hD hP17 hD17 hS17
          refine lv_aload_n hx hb dX6_text_173 rfl (lv_at hl15 0 rfl) ?_
          refine lv_aload_n hx hb dX6_text_174 rfl (lv_at hl15 0 rfl) ?_
          refine va_get (D := D) (ci := 6) (v := .int (v18_ 0 12)) (C := RX6) (T := TX6) (N := 40) hx hb hW iX6 hown hK hP18 0 rfl rfl 12 (by decide) (hW _ k_879) (fun _ h => h) rfl dX6_text_175 ?_
          refine va_put (D := D) (ci := 6) (v := .int (v18_ 0 12)) (ty := .int) (C := RX6) (T := TX6) (N := 40) hx hb hW iX6 tyX6 tyX6_ok nmX6 hown hK hP18 hD18 hS18 0 rfl rfl 4 (by decide) (hW _ k_871) (fun _ h => h) rfl (by decide +kernel) rfl rfl (Nat.le_of_ble_eq_true rfl) dX6_text_178 (fun H19 locs19 hP hD hS19 => ?_)
          obtain ⟨v19_, e19, hm⟩ := ltd hm
          have hP19 : va_P D cls (wX6 q a v19_) H19 := by rw [e19]; exact hP
          have hD19 : va_D (va_A (wX6 q a v) s.heap.size) (wX6 q a v19_) := by rw [e19]; exact hD
          clear hP hD hP18 hD18 hS18
          refine lv_aload_n hx hb dX6_text_181 rfl (lv_at hl15 0 rfl) ?_
          refine lv_aload_n hx hb dX6_text_182 rfl (lv_at hl15 0 rfl) ?_
          refine va_get (D := D) (ci := 6) (v := .int (v19_ 0 13)) (C := RX6) (T := TX6) (N := 40) hx hb hW iX6 hown hK hP19 0 rfl rfl 13 (by decide) (hW _ k_880) (fun _ h => h) rfl dX6_text_183 ?_
          refine va_put (D := D) (ci := 6) (v := .int (v19_ 0 13)) (ty := .int) (C := RX6) (T := TX6) (N := 40) hx hb hW iX6 tyX6 tyX6_ok nmX6 hown hK hP19 hD19 hS19 0 rfl rfl 6 (by decide) (hW _ k_873) (fun _ h => h) rfl (by decide +kernel) rfl rfl (Nat.le_of_ble_eq_true rfl) dX6_text_186 (fun H20 locs20 hP hD hS20 => ?_)
          obtain ⟨v20_, e20, hm⟩ := ltd hm
          have hP20 : va_P D cls (wX6 q a v20_) H20 := by rw [e20]; exact hP
          have hD20 : va_D (va_A (wX6 q a v) s.heap.size) (wX6 q a v20_) := by rw [e20]; exact hD
          clear hP hD hP19 hD19 hS19
          refine lv_aload_n hx hb dX6_text_189 rfl (lv_at hl15 0 rfl) ?_
          refine lv_iconst (v := (0 : Int32)) hx hb dX6_text_190 (by decide) ?_
          refine va_put (D := D) (ci := 6) (v := .int (0 : Int32)) (ty := .int) (C := RX6) (T := TX6) (N := 40) hx hb hW iX6 tyX6 tyX6_ok nmX6 hown hK hP20 hD20 hS20 0 rfl rfl 32 (by decide) (hW _ k_899) (fun _ h => h) rfl (by decide +kernel) rfl rfl (Nat.le_of_ble_eq_true rfl) dX6_text_191 (fun H21 locs21 hP hD hS21 => ?_)
          obtain ⟨v21_, e21, hm⟩ := ltd hm
          have hP21 : va_P D cls (wX6 q a v21_) H21 := by rw [e21]; exact hP
          have hD21 : va_D (va_A (wX6 q a v) s.heap.size) (wX6 q a v21_) := by rw [e21]; exact hD
          clear hP hD hP20 hD20 hS20
          refine lv_aload_n hx hb dX6_text_194 rfl (lv_at hl15 0 rfl) ?_
          refine va_get (D := D) (ci := 6) (v := .ref (a 35)) (C := RX6) (T := TX6) (N := 40) hx hb hW iX6 hown hK hP21 0 rfl rfl 35 (by decide) (hW _ k_902) (fun _ h => h) rfl dX6_text_195 ?_
          refine lv_iconst (v := (0 : Int32)) hx hb dX6_text_198 (by decide) ?_
          refine lv_iconst (v := (0 : Int32)) hx hb dX6_text_199 (by decide) ?_
          refine va_zast (f := (v21_ 35)) hx hb hK hP21 hD21 hS21 14 2 rfl rfl (inB_vp (by decide)) dX6_text_200 (fun H22 locs22 hP hD hS22 => ?_)
          obtain ⟨v22_, e22, hm⟩ := ltd hm
          have hP22 : va_P D cls (wX6 q a v22_) H22 := by rw [e22]; exact hP
          have hD22 : va_D (va_A (wX6 q a v) s.heap.size) (wX6 q a v22_) := by rw [e22]; exact hD
          clear hP hD hP21 hD21 hS21
          refine lv_aload_n hx hb dX6_text_201 rfl (lv_at hl15 0 rfl) ?_
          refine va_get (D := D) (ci := 6) (v := .ref (a 35)) (C := RX6) (T := TX6) (N := 40) hx hb hW iX6 hown hK hP22 0 rfl rfl 35 (by decide) (hW _ k_902) (fun _ h => h) rfl dX6_text_202 ?_
          refine lv_iconst (v := (1 : Int32)) hx hb dX6_text_205 (by decide) ?_
          refine lv_iconst (v := (0 : Int32)) hx hb dX6_text_206 (by decide) ?_
          refine va_zast (f := (v22_ 35)) hx hb hK hP22 hD22 hS22 14 2 rfl rfl (inB_vp (by decide)) dX6_text_207 (fun H23 locs23 hP hD hS23 => ?_)
          obtain ⟨v23_, e23, hm⟩ := ltd hm
          have hP23 : va_P D cls (wX6 q a v23_) H23 := by rw [e23]; exact hP
          have hD23 : va_D (va_A (wX6 q a v) s.heap.size) (wX6 q a v23_) := by rw [e23]; exact hD
          clear hP hD hP22 hD22 hS22
          refine lv_iload_n hx hb dX6_text_208 rfl (lv_at hl15 1 rfl) ?_
          exact eWi (Wf := fun (uu : SV) => wX6 q a uu) (u := v23_) X hr hlocks hP23 hD23 hS23 hm dX6_text_209
        have hL99 : ∀ (n : Nat) (z99 : Int32 × SV) (ρ99 : Int32 × SV), lpO (m_X6_text_L99) n z99 = some ρ99 → (m_X6_text_K99 z10) ρ99 = some res → ∀ (H : Heap) (locs : List Loc), va_P D cls (wX6 q a z99.2) H → va_D (va_A (wX6 q a v) s.heap.size) (wX6 q a z99.2) → va_S (va_A (wX6 q a v) s.heap.size) s.heap H locs → ∀ ls : Array Slot, lv_has ls 3 [(0, .ref (a 99)), (1, .int z10.1), (2, .int z99.1)] → W p l e ((headSpec (mw yX6_text cX6_text 3 (some .int)) ({ frames := 7, cells := 0, slots := 0, locals := 156 } : Room)).room) s m [.ref (a 99)].toArray below meth c H locs 0 0 (MQ below (va_Qi (fun r w => r = res.1 ∧ w = res.2) (bW D q (wX6 q a v) s.heap.size (fun (uu : SV) => wX6 q a uu)) (va_A (wX6 q a v) s.heap.size)) [.ref (a 99)].toArray s 0 0 (va_A (wX6 q a v) s.heap.size)) (F0 m 99 ls []) := by
          intro n
          induction n with
          | zero => intro _ _ h; cases h
          | succ n ih99 =>
            intro z99 ρ99 hz99 hK99 H14 locs14 hP14 hD14 hS14 ls13 hl13
            obtain ⟨t99, hm, hz99⟩ := bn hz99
            unfold m_X6_text_L99 at hm
            refine lv_iload_n hx hb dX6_text_99 rfl (lv_at hl13 2 rfl) ?_
            refine lv_bipush (v := (63 : Int32)) hx hb dX6_text_100 (by decide) ?_
            refine lv_icmp_ge (tgt := 157) hx hb dX6_text_102 (by decide) (fun c102 => ?_) (fun c102 => ?_)
            · replace hm := tp hm c102
              cases hm
              cases hz99
              exact hE99 (z99.1, z99.2) hK99 _ _ hP14 hD14 hS14 _ (lv_sub hl13 [0, 1] rfl)
            · replace hm := tn hm c102
              refine lv_aload_n hx hb dX6_text_105 rfl (lv_at hl13 0 rfl) ?_
              refine va_get (D := D) (ci := 6) (v := .ref (a 0)) (C := RX6) (T := TX6) (N := 40) hx hb hW iX6 hown hK hP14 0 rfl rfl 0 (by decide) (hW _ k_867) (fun _ h => h) rfl dX6_text_106 ?_
              refine lv_iload_n hx hb dX6_text_109 rfl (lv_at hl13 2 rfl) ?_
              refine lv_aload_n hx hb dX6_text_110 rfl (lv_at hl13 0 rfl) ?_
              refine va_get (D := D) (ci := 6) (v := .ref (a 7)) (C := RX6) (T := TX6) (N := 40) hx hb hW iX6 hown hK hP14 0 rfl rfl 7 (by decide) (hW _ k_874) (fun _ h => h) rfl dX6_text_111 ?_
              refine lv_iload_n hx hb dX6_text_114 rfl (lv_at hl13 2 rfl) ?_
              obtain ⟨h24, hm⟩ := ckd hm
              refine va_iald (f := (z99.2 7)) hx hb hK hP14 4 0 rfl rfl (inB_vp h24) dX6_text_115 ?_
              obtain ⟨h25, hm⟩ := ckd hm
              refine va_iast (f := (z99.2 50)) hx hb hK hP14 hD14 hS14 1 0 rfl rfl (inB_vp h25) dX6_text_116 (fun H26 locs26 hP hD hS26 => ?_)
              obtain ⟨v26_, e26, hm⟩ := ltd hm
              have hP26 : va_P D cls (wX6 q a v26_) H26 := by rw [e26]; exact hP
              have hD26 : va_D (va_A (wX6 q a v) s.heap.size) (wX6 q a v26_) := by rw [e26]; exact hD
              clear hP hD hP14 hD14 hS14
              refine lv_aload_n hx hb dX6_text_117 rfl (lv_at hl13 0 rfl) ?_
              refine va_get (D := D) (ci := 6) (v := .ref (a 3)) (C := RX6) (T := TX6) (N := 40) hx hb hW iX6 hown hK hP26 0 rfl rfl 3 (by decide) (hW _ k_870) (fun _ h => h) rfl dX6_text_118 ?_
              refine lv_iload_n hx hb dX6_text_121 rfl (lv_at hl13 2 rfl) ?_
              refine lv_bipush (v := (10 : Int32)) hx hb dX6_text_122 (by decide) ?_
              refine lv_irem hx hb dX6_text_124 (by decide) ?_
              refine lv_aload_n hx hb dX6_text_125 rfl (lv_at hl13 0 rfl) ?_
              refine va_get (D := D) (ci := 6) (v := .ref (a 8)) (C := RX6) (T := TX6) (N := 40) hx hb hW iX6 hown hK hP26 0 rfl rfl 8 (by decide) (hW _ k_875) (fun _ h => h) rfl dX6_text_126 ?_
              refine lv_iload_n hx hb dX6_text_129 rfl (lv_at hl13 2 rfl) ?_
              refine lv_bipush (v := (10 : Int32)) hx hb dX6_text_130 (by decide) ?_
              refine lv_irem hx hb dX6_text_132 (by decide) ?_
              obtain ⟨h27, hm⟩ := ckd hm
              refine va_iald (f := (v26_ 8)) hx hb hK hP26 5 0 rfl rfl (inB_vp h27) dX6_text_133 ?_
              obtain ⟨h28, hm⟩ := ckd hm
              refine va_iast (f := (v26_ 3)) hx hb hK hP26 hD26 hS26 2 0 rfl rfl (inB_vp h28) dX6_text_134 (fun H29 locs29 hP hD hS29 => ?_)
              obtain ⟨v29_, e29, hm⟩ := ltd hm
              have hP29 : va_P D cls (wX6 q a v29_) H29 := by rw [e29]; exact hP
              have hD29 : va_D (va_A (wX6 q a v) s.heap.size) (wX6 q a v29_) := by rw [e29]; exact hD
              clear hP hD hP26 hD26 hS26
              refine lv_aload_n hx hb dX6_text_135 rfl (lv_at hl13 0 rfl) ?_
              refine va_get (D := D) (ci := 6) (v := .ref (a 5)) (C := RX6) (T := TX6) (N := 40) hx hb hW iX6 hown hK hP29 0 rfl rfl 5 (by decide) (hW _ k_872) (fun _ h => h) rfl dX6_text_136 ?_
              refine lv_iload_n hx hb dX6_text_139 rfl (lv_at hl13 2 rfl) ?_
              refine lv_iconst (v := (4 : Int32)) hx hb dX6_text_140 (by decide) ?_
              refine lv_irem hx hb dX6_text_141 (by decide) ?_
              refine lv_aload_n hx hb dX6_text_142 rfl (lv_at hl13 0 rfl) ?_
              refine va_get (D := D) (ci := 6) (v := .ref (a 9)) (C := RX6) (T := TX6) (N := 40) hx hb hW iX6 hown hK hP29 0 rfl rfl 9 (by decide) (hW _ k_876) (fun _ h => h) rfl dX6_text_143 ?_
              refine lv_iload_n hx hb dX6_text_146 rfl (lv_at hl13 2 rfl) ?_
              refine lv_iconst (v := (4 : Int32)) hx hb dX6_text_147 (by decide) ?_
              refine lv_irem hx hb dX6_text_148 (by decide) ?_
              obtain ⟨h30, hm⟩ := ckd hm
              refine va_iald (f := (v29_ 9)) hx hb hK hP29 6 0 rfl rfl (inB_vp h30) dX6_text_149 ?_
              obtain ⟨h31, hm⟩ := ckd hm
              refine va_iast (f := (v29_ 5)) hx hb hK hP29 hD29 hS29 3 0 rfl rfl (inB_vp h31) dX6_text_150 (fun H32 locs32 hP hD hS32 => ?_)
              obtain ⟨v32_, e32, hm⟩ := ltd hm
              have hP32 : va_P D cls (wX6 q a v32_) H32 := by rw [e32]; exact hP
              have hD32 : va_D (va_A (wX6 q a v) s.heap.size) (wX6 q a v32_) := by rw [e32]; exact hD
              clear hP hD hP29 hD29 hS29
              refine lv_iinc (v := (z99.1 + (1 : Int32))) (lv' := [(2, .int (z99.1 + (1 : Int32))), (0, .ref (a 99)), (1, .int z10.1)]) hx hb dX6_text_151 hl13 (k := 2) rfl rfl (by decide) rfl (fun ls33 hl33 => ?_)
              clear hl13
              refine lv_goto (tgt := 99) hx hb dX6_text_154 (by decide) ?_
              cases hm
              exact ih99 ((z99.1 + (1 : Int32)), v32_) ρ99 hz99 hK99 _ _ hP32 hD32 hS32 _ (lv_sub hl33 [1, 2, 0] rfl)
        exact hL99 n99 ((0 : Int32), v11_) r99 hn99 hm _ _ hP11 hD11 hS11 _ (lv_sub hl12 [1, 2, 0] rfl)
      · replace hm := tn hm c86
        refine lv_bipush (v := (-10 : Int32)) hx hb dX6_text_89 (by decide) ?_
        refine lv_aload_n hx hb dX6_text_91 rfl (lv_at hl8 0 rfl) ?_
        refine va_get (D := D) (ci := 6) (v := .int (v11_ 0 22)) (C := RX6) (T := TX6) (N := 40) hx hb hW iX6 hown hK hP11 0 rfl rfl 22 (by decide) (hW _ k_889) (fun _ h => h) rfl dX6_text_92 ?_
        refine lv_isub hx hb dX6_text_95 ?_
        exact eWi (Wf := fun (uu : SV) => wX6 q a uu) (u := v11_) X hr hlocks hP11 hD11 hS11 hm dX6_text_96
    refine lv_if_ne (tgt := 69) hx hb dX6_text_38 (by decide) (fun c38 => ?_) (fun c38 => ?_)
    · replace hm := tn hm c38
      exact hJ69 z10.2 hm _ _ hP7 hD7 hS7 _ (lv_sub hl6 [0, 1] rfl)
    · replace hm := tp hm c38
      refine lv_aload_n hx hb dX6_text_41 rfl (lv_at hl6 0 rfl) ?_
      refine va_get (D := D) (ci := 6) (v := .int (z10.2 0 16)) (C := RX6) (T := TX6) (N := 40) hx hb hW iX6 hown hK hP7 0 rfl rfl 16 (by decide) (hW _ k_883) (fun _ h => h) rfl dX6_text_42 ?_
      refine lv_aload_n hx hb dX6_text_45 rfl (lv_at hl6 0 rfl) ?_
      refine va_get (D := D) (ci := 6) (v := .int (z10.2 0 10)) (C := RX6) (T := TX6) (N := 40) hx hb hW iX6 hown hK hP7 0 rfl rfl 10 (by decide) (hW _ k_877) (fun _ h => h) rfl dX6_text_46 ?_
      have hJ63 : ∀ z63 : Unit, m_X6_text_J63 z10 z63 = some res → ∀ (H : Heap) (locs : List Loc), va_P D cls (wX6 q a z10.2) H → va_D (va_A (wX6 q a v) s.heap.size) (wX6 q a z10.2) → va_S (va_A (wX6 q a v) s.heap.size) s.heap H locs → ∀ ls : Array Slot, lv_has ls 3 [(0, .ref (a 99)), (1, .int z10.1)] → W p l e ((headSpec (mw yX6_text cX6_text 3 (some .int)) ({ frames := 7, cells := 0, slots := 0, locals := 156 } : Room)).room) s m [.ref (a 99)].toArray below meth c H locs 0 0 (MQ below (va_Qi (fun r w => r = res.1 ∧ w = res.2) (bW D q (wX6 q a v) s.heap.size (fun (uu : SV) => wX6 q a uu)) (va_A (wX6 q a v) s.heap.size)) [.ref (a 99)].toArray s 0 0 (va_A (wX6 q a v) s.heap.size)) (F0 m 63 ls []) := by
        intro z63 hm H35 locs35 hP35 hD35 hS35 ls34 hl34
        unfold m_X6_text_J63 at hm
        refine lv_aload_n hx hb dX6_text_63 rfl (lv_at hl34 0 rfl) ?_
        refine lv_bipush (v := (6 : Int32)) hx hb dX6_text_64 (by decide) ?_
        obtain ⟨y66, hy66, hm⟩ := bn hm
        refine cVWv (As := [.int (6 : Int32)]) (rest := []) (Wn := fun (uu : SV) => wX6 q a uu) X hP35 hD35 hS35 (fun _ h => Or.inr h) hl34.1 (c_X6_fails l D q H35.size a z10.2 (6 : Int32) y66 hy66) [0, 1, 2, 3, 4, 5, 6, 7, 8, 9, 10, 11, 12, 13, 14, 15, 16, 17] [] [0, 1, 2, 3, 4, 5, 6, 7, 8, 9, 10, 11, 12, 13, 14, 15, 16, 17] rfl (Wr := []) rfl (by decide) (by decide) (by decide) (by decide) (fun _ => rfl) 0 rfl rfl rfl k_1020 mX6_fails ⟨rfl, rfl⟩ ⟨Nat.le_of_ble_eq_true rfl, Nat.le_of_ble_eq_true rfl⟩ rfl rfl (Nat.le_of_ble_eq_true rfl) dX6_text_66 ⟨Nat.zero_le _, Nat.zero_le _⟩ (fun H36 locs36 hP hD hS36 => ?_)
        have hP36 : va_P D cls (wX6 q a y66) H36 := hP
        have hD36 : va_D (va_A (wX6 q a v) s.heap.size) (wX6 q a y66) := hD
        clear hP hD hP35 hD35 hS35
        exact hJ69 y66 hm _ _ hP36 hD36 hS36 _ (lv_sub hl34 [0, 1] rfl)
      refine lv_icmp_ge (tgt := 63) hx hb dX6_text_49 (by decide) (fun c49 => ?_) (fun c49 => ?_)
      · replace hm := tp hm c49
        exact hJ63 () hm _ _ hP7 hD7 hS7 _ (lv_sub hl6 [0, 1] rfl)
      · replace hm := tn hm c49
        refine lv_aload_n hx hb dX6_text_52 rfl (lv_at hl6 0 rfl) ?_
        refine va_get (D := D) (ci := 6) (v := .int (z10.2 0 17)) (C := RX6) (T := TX6) (N := 40) hx hb hW iX6 hown hK hP7 0 rfl rfl 17 (by decide) (hW _ k_884) (fun _ h => h) rfl dX6_text_53 ?_
        refine lv_aload_n hx hb dX6_text_56 rfl (lv_at hl6 0 rfl) ?_
        refine va_get (D := D) (ci := 6) (v := .int (z10.2 0 11)) (C := RX6) (T := TX6) (N := 40) hx hb hW iX6 hown hK hP7 0 rfl rfl 11 (by decide) (hW _ k_878) (fun _ h => h) rfl dX6_text_57 ?_
        refine lv_icmp_lt (tgt := 69) hx hb dX6_text_60 (by decide) (fun c60 => ?_) (fun c60 => ?_)
        · replace hm := tp hm c60
          exact hJ69 z10.2 hm _ _ hP7 hD7 hS7 _ (lv_sub hl6 [0, 1] rfl)
        · replace hm := tn hm c60
          exact hJ63 () hm _ _ hP7 hD7 hS7 _ (lv_sub hl6 [0, 1] rfl)
  have hL10 : ∀ (n : Nat) (z10 : Int32 × SV) (ρ10 : Int32 × SV), lpO (m_X6_text_L10) n z10 = some ρ10 → (m_X6_text_K10) ρ10 = some res → ∀ (H : Heap) (locs : List Loc), va_P D cls (wX6 q a z10.2) H → va_D (va_A (wX6 q a v) s.heap.size) (wX6 q a z10.2) → va_S (va_A (wX6 q a v) s.heap.size) s.heap H locs → ∀ ls : Array Slot, lv_has ls 3 [(0, .ref (a 99)), (1, .int z10.1)] → W p l e ((headSpec (mw yX6_text cX6_text 3 (some .int)) ({ frames := 7, cells := 0, slots := 0, locals := 156 } : Room)).room) s m [.ref (a 99)].toArray below meth c H locs 0 0 (MQ below (va_Qi (fun r w => r = res.1 ∧ w = res.2) (bW D q (wX6 q a v) s.heap.size (fun (uu : SV) => wX6 q a uu)) (va_A (wX6 q a v) s.heap.size)) [.ref (a 99)].toArray s 0 0 (va_A (wX6 q a v) s.heap.size)) (F0 m 10 ls []) := by
    intro n
    induction n with
    | zero => intro _ _ h; cases h
    | succ n ih10 =>
      intro z10 ρ10 hz10 hK10 H5 locs5 hP5 hD5 hS5 ls4 hl4
      obtain ⟨t10, hm, hz10⟩ := bn hz10
      unfold m_X6_text_L10 at hm
      refine lv_aload_n hx hb dX6_text_10 rfl (lv_at hl4 0 rfl) ?_
      refine va_get (D := D) (ci := 6) (v := .int (z10.2 0 21)) (C := RX6) (T := TX6) (N := 40) hx hb hW iX6 hown hK hP5 0 rfl rfl 21 (by decide) (hW _ k_888) (fun _ h => h) rfl dX6_text_11 ?_
      refine lv_if_ne (tgt := 34) hx hb dX6_text_14 (by decide) (fun c14 => ?_) (fun c14 => ?_)
      · replace hm := tn hm c14
        cases hm
        cases hz10
        exact hE10 (z10.1, z10.2) hK10 _ _ hP5 hD5 hS5 _ (lv_sub hl4 [0, 1] rfl)
      · replace hm := tp hm c14
        refine lv_aload_n hx hb dX6_text_17 rfl (lv_at hl4 0 rfl) ?_
        refine va_get (D := D) (ci := 6) (v := .int (z10.2 0 25)) (C := RX6) (T := TX6) (N := 40) hx hb hW iX6 hown hK hP5 0 rfl rfl 25 (by decide) (hW _ k_892) (fun _ h => h) rfl dX6_text_18 ?_
        refine lv_if_eq (tgt := 34) hx hb dX6_text_21 (by decide) (fun c21 => ?_) (fun c21 => ?_)
        · replace hm := tp hm c21
          cases hm
          cases hz10
          exact hE10 (z10.1, z10.2) hK10 _ _ hP5 hD5 hS5 _ (lv_sub hl4 [0, 1] rfl)
        · replace hm := tn hm c21
          refine lv_aload_n hx hb dX6_text_24 rfl (lv_at hl4 0 rfl) ?_
          obtain ⟨y25, hy25, hm⟩ := bn hm
          refine cVWv (As := []) (rest := []) (Wn := fun (uu : SV) => wX6 q a uu) X hP5 hD5 hS5 (fun _ h => Or.inr h) hl4.1 (c_X6_readLine l D q H5.size a z10.2 y25 hy25) [0, 1, 2, 3, 4, 5, 6, 7, 8, 9, 10, 11, 12, 13, 14, 15, 16, 17] [] [0, 1, 2, 3, 4, 5, 6, 7, 8, 9, 10, 11, 12, 13, 14, 15, 16, 17] rfl (Wr := []) rfl (by decide) (by decide) (by decide) (by decide) (fun _ => rfl) 0 rfl rfl rfl k_1024 mX6_readLine ⟨rfl, rfl⟩ ⟨Nat.le_of_ble_eq_true rfl, Nat.le_of_ble_eq_true rfl⟩ rfl rfl (Nat.le_of_ble_eq_true rfl) dX6_text_25 ⟨Nat.zero_le _, Nat.zero_le _⟩ (fun H37 locs37 hP hD hS37 => ?_)
          have hP37 : va_P D cls (wX6 q a y25) H37 := hP
          have hD37 : va_D (va_A (wX6 q a v) s.heap.size) (wX6 q a y25) := hD
          clear hP hD hP5 hD5 hS5
          refine lv_iinc (v := (z10.1 + (1 : Int32))) (lv' := [(1, .int (z10.1 + (1 : Int32))), (0, .ref (a 99))]) hx hb dX6_text_28 hl4 (k := 1) rfl rfl (by decide) rfl (fun ls38 hl38 => ?_)
          clear hl4
          refine lv_goto (tgt := 10) hx hb dX6_text_31 (by decide) ?_
          cases hm
          exact ih10 ((z10.1 + (1 : Int32)), y25) ρ10 hz10 hK10 _ _ hP37 hD37 hS37 _ (lv_sub hl38 [1, 0] rfl)
  exact hL10 n10 ((0 : Int32), y7) r10 hn10 hm _ _ hP3 hD3 hS3 _ (lv_sub hl1 [1, 0] rfl)
noncomputable def m_X6_fault (v : SV) : Option (Int32) :=
  some (v 0 20)
set_option maxHeartbeats 4000000 in
set_option maxRecDepth 100000 in
theorem c_X6_fault (l : Launch) (D : va_G) (q : Nat → ClassId) (a : Nat → Nat) (v : SV) (res : Int32) (hm : m_X6_fault v = some res) : Met l yX6_fault (mw yX6_fault cX6_fault 1 (some .int)) ({ frames := 0, cells := 0, slots := 0, locals := 0 } : Room) (pcR D q (wX6 q a v) [.ref (a 99)]) (vp_Si (fun x => x = res)) 0 0 (fun _ => False) := by
  refine Met.ofW (cc := cX6_fault) (maxL := 1) (ret := (some .int)) (by decide) rfl ?_
  intro p e s m args below meth c s₁ B hml hv
  obtain ⟨rfl, hP0, hK⟩ := hv
  have hx := B.exec
  have hb := B.bytes
  have hr := B.returns
  have hW := mw_ws (atoms_spec (ws := mw yX6_fault cX6_fault 1 (some .int)) B.pre)
  have hown : s.vm.findClass RX6 = some m.cls := findClass_of_methodNamed B.named
  have hlocks := B.notSynchronized
  have X : Cx p s m [.ref (a 99)].toArray c cX6_fault 1 RX6 D q := ⟨hx, hb, hml, hown, hW, hK⟩
  have hl0 := lv_entry ([.ref (a 99)]) (n := 1) (Nat.le_of_ble_eq_true rfl)
  rw [lg_entry_eq]
  generalize (lg_sl ([.ref (a 99)]) ++ List.replicate (1 - (lg_sl ([.ref (a 99)])).length) Slot.unset).toArray = ls0 at hl0 ⊢
  have hl0 : lv_has ls0 1 [(0, .ref (a 99))] := hl0
  unfold m_X6_fault at hm
  refine lv_aload_n hx hb dX6_fault_0 rfl (lv_at hl0 0 rfl) ?_
  refine va_get (D := D) (ci := 6) (v := .int (v 0 20)) (C := RX6) (T := TX6) (N := 40) hx hb hW iX6 hown hK hP0 0 rfl rfl 20 (by decide) (hW _ k_887) (fun _ h => h) rfl dX6_fault_1 ?_
  exact eRi  X hr hlocks hm dX6_fault_4
noncomputable def m_X6_isPart (v : SV) (x1 : Int32) : Option (Int32) :=
  (m_X6_in (x1.toInt64) (0 : Int64) (((v 0 1) - (1 : Int32)).toInt64)).bind (fun y10 => ck (nzB y10) (some y10))
set_option maxHeartbeats 4000000 in
set_option maxRecDepth 100000 in
theorem c_X6_isPart (l : Launch) (D : va_G) (q : Nat → ClassId) (a : Nat → Nat) (v : SV) (x1 : Int32) (res : Int32) (hm : m_X6_isPart v x1 = some res) : Met l yX6_isPart (mw yX6_isPart cX6_isPart 2 (some .boolean)) ({ frames := 1, cells := 0, slots := 0, locals := 25 } : Room) (pcR D q (wX6 q a v) [.ref (a 99), .int x1]) (vp_Si (fun x => x = res)) 0 0 (fun _ => False) := by
  refine Met.ofW (cc := cX6_isPart) (maxL := 2) (ret := (some .boolean)) (by decide) rfl ?_
  intro p e s m args below meth c s₁ B hml hv
  obtain ⟨rfl, hP0, hK⟩ := hv
  have hx := B.exec
  have hb := B.bytes
  have hr := B.returns
  have hW := mw_ws (atoms_spec (ws := mw yX6_isPart cX6_isPart 2 (some .boolean)) B.pre)
  have hown : s.vm.findClass RX6 = some m.cls := findClass_of_methodNamed B.named
  have hlocks := B.notSynchronized
  have X : Cx p s m [.ref (a 99), .int x1].toArray c cX6_isPart 2 RX6 D q := ⟨hx, hb, hml, hown, hW, hK⟩
  have hl0 := lv_entry ([.ref (a 99), .int x1]) (n := 2) (Nat.le_of_ble_eq_true rfl)
  rw [lg_entry_eq]
  generalize (lg_sl ([.ref (a 99), .int x1]) ++ List.replicate (2 - (lg_sl ([.ref (a 99), .int x1])).length) Slot.unset).toArray = ls0 at hl0 ⊢
  have hl0 : lv_has ls0 2 [(0, .ref (a 99)), (1, .int x1)] := hl0
  unfold m_X6_isPart at hm
  refine lv_iload_n hx hb dX6_isPart_0 rfl (lv_at hl0 1 rfl) ?_
  refine lv_i2l hx hb dX6_isPart_1 rfl ?_
  refine lv_lconst (v := (0 : Int64)) hx hb dX6_isPart_2 (by decide) ?_
  refine lv_aload_n hx hb dX6_isPart_3 rfl (lv_at hl0 0 rfl) ?_
  refine va_get (D := D) (ci := 6) (v := .int (v 0 1)) (C := RX6) (T := TX6) (N := 40) hx hb hW iX6 hown hK hP0 0 rfl rfl 1 (by decide) (hW _ k_868) (fun _ h => h) rfl dX6_isPart_4 ?_
  refine lv_iconst (v := (1 : Int32)) hx hb dX6_isPart_7 (by decide) ?_
  refine lv_isub hx hb dX6_isPart_8 ?_
  refine lv_i2l hx hb dX6_isPart_9 rfl ?_
  obtain ⟨y10, hy10, hm⟩ := bn hm
  refine cSRi (As := [.long (x1.toInt64), .long (0 : Int64), .long (((v 0 1) - (1 : Int32)).toInt64)]) (rest := []) X hP0 hl0.1 (c_X6_in l D q (x1.toInt64) (0 : Int64) (((v 0 1) - (1 : Int32)).toInt64) y10 hy10) [] rfl k_993 mX6_in ⟨rfl, rfl⟩ ⟨Nat.le_of_ble_eq_true rfl, Nat.le_of_ble_eq_true rfl⟩ rfl rfl (Nat.le_of_ble_eq_true rfl) dX6_isPart_10 ⟨Nat.zero_le _, Nat.zero_le _⟩ ?_
  obtain ⟨hz0, hm⟩ := ckd hm
  have hnz := nz_nar hz0
  exact eRz  X hr hlocks hnz hm dX6_isPart_13
noncomputable def m_X6_isSitter (v : SV) (x1 : Int32) : Option (Int32) :=
  (m_X6_in (x1.toInt64) (0 : Int64) (((v 0 2) - (1 : Int32)).toInt64)).bind (fun y10 => ck (nzB y10) (some y10))
set_option maxHeartbeats 4000000 in
set_option maxRecDepth 100000 in
theorem c_X6_isSitter (l : Launch) (D : va_G) (q : Nat → ClassId) (a : Nat → Nat) (v : SV) (x1 : Int32) (res : Int32) (hm : m_X6_isSitter v x1 = some res) : Met l yX6_isSitter (mw yX6_isSitter cX6_isSitter 2 (some .boolean)) ({ frames := 1, cells := 0, slots := 0, locals := 25 } : Room) (pcR D q (wX6 q a v) [.ref (a 99), .int x1]) (vp_Si (fun x => x = res)) 0 0 (fun _ => False) := by
  refine Met.ofW (cc := cX6_isSitter) (maxL := 2) (ret := (some .boolean)) (by decide) rfl ?_
  intro p e s m args below meth c s₁ B hml hv
  obtain ⟨rfl, hP0, hK⟩ := hv
  have hx := B.exec
  have hb := B.bytes
  have hr := B.returns
  have hW := mw_ws (atoms_spec (ws := mw yX6_isSitter cX6_isSitter 2 (some .boolean)) B.pre)
  have hown : s.vm.findClass RX6 = some m.cls := findClass_of_methodNamed B.named
  have hlocks := B.notSynchronized
  have X : Cx p s m [.ref (a 99), .int x1].toArray c cX6_isSitter 2 RX6 D q := ⟨hx, hb, hml, hown, hW, hK⟩
  have hl0 := lv_entry ([.ref (a 99), .int x1]) (n := 2) (Nat.le_of_ble_eq_true rfl)
  rw [lg_entry_eq]
  generalize (lg_sl ([.ref (a 99), .int x1]) ++ List.replicate (2 - (lg_sl ([.ref (a 99), .int x1])).length) Slot.unset).toArray = ls0 at hl0 ⊢
  have hl0 : lv_has ls0 2 [(0, .ref (a 99)), (1, .int x1)] := hl0
  unfold m_X6_isSitter at hm
  refine lv_iload_n hx hb dX6_isSitter_0 rfl (lv_at hl0 1 rfl) ?_
  refine lv_i2l hx hb dX6_isSitter_1 rfl ?_
  refine lv_lconst (v := (0 : Int64)) hx hb dX6_isSitter_2 (by decide) ?_
  refine lv_aload_n hx hb dX6_isSitter_3 rfl (lv_at hl0 0 rfl) ?_
  refine va_get (D := D) (ci := 6) (v := .int (v 0 2)) (C := RX6) (T := TX6) (N := 40) hx hb hW iX6 hown hK hP0 0 rfl rfl 2 (by decide) (hW _ k_869) (fun _ h => h) rfl dX6_isSitter_4 ?_
  refine lv_iconst (v := (1 : Int32)) hx hb dX6_isSitter_7 (by decide) ?_
  refine lv_isub hx hb dX6_isSitter_8 ?_
  refine lv_i2l hx hb dX6_isSitter_9 rfl ?_
  obtain ⟨y10, hy10, hm⟩ := bn hm
  refine cSRi (As := [.long (x1.toInt64), .long (0 : Int64), .long (((v 0 2) - (1 : Int32)).toInt64)]) (rest := []) X hP0 hl0.1 (c_X6_in l D q (x1.toInt64) (0 : Int64) (((v 0 2) - (1 : Int32)).toInt64) y10 hy10) [] rfl k_993 mX6_in ⟨rfl, rfl⟩ ⟨Nat.le_of_ble_eq_true rfl, Nat.le_of_ble_eq_true rfl⟩ rfl rfl (Nat.le_of_ble_eq_true rfl) dX6_isSitter_10 ⟨Nat.zero_le _, Nat.zero_le _⟩ ?_
  obtain ⟨hz0, hm⟩ := ckd hm
  have hnz := nz_nar hz0
  exact eRz  X hr hlocks hnz hm dX6_isSitter_13
noncomputable def m_X6_topOn (v : SV) (x1 : Int32) (x2 : Int32) : Option (Int32) :=
  ck (inB ((x1 + (6 : Int32)) + x2) 315) ((if (v 50 ((((x1 + (6 : Int32)) + x2)).toNatClampNeg)) = 0 then some (-4 : Int32) else ck (inB ((((x1 + (12 : Int32)) + ((4 : Int32) * x2)) + (v 50 ((((x1 + (6 : Int32)) + x2)).toNatClampNeg))) - (1 : Int32)) 315) (some (v 50 ((((((x1 + (12 : Int32)) + ((4 : Int32) * x2)) + (v 50 ((((x1 + (6 : Int32)) + x2)).toNatClampNeg))) - (1 : Int32))).toNatClampNeg)))))
set_option maxHeartbeats 4000000 in
set_option maxRecDepth 100000 in
theorem c_X6_topOn (l : Launch) (D : va_G) (q : Nat → ClassId) (a : Nat → Nat) (v : SV) (x1 : Int32) (x2 : Int32) (res : Int32) (hm : m_X6_topOn v x1 x2 = some res) : Met l yX6_topOn (mw yX6_topOn cX6_topOn 4 (some .int)) ({ frames := 0, cells := 0, slots := 0, locals := 0 } : Room) (pcR D q (wX6 q a v) [.ref (a 99), .int x1, .int x2]) (vp_Si (fun x => x = res)) 0 0 (fun _ => False) := by
  refine Met.ofW (cc := cX6_topOn) (maxL := 4) (ret := (some .int)) (by decide) rfl ?_
  intro p e s m args below meth c s₁ B hml hv
  obtain ⟨rfl, hP0, hK⟩ := hv
  have hx := B.exec
  have hb := B.bytes
  have hr := B.returns
  have hW := mw_ws (atoms_spec (ws := mw yX6_topOn cX6_topOn 4 (some .int)) B.pre)
  have hown : s.vm.findClass RX6 = some m.cls := findClass_of_methodNamed B.named
  have hlocks := B.notSynchronized
  have X : Cx p s m [.ref (a 99), .int x1, .int x2].toArray c cX6_topOn 4 RX6 D q := ⟨hx, hb, hml, hown, hW, hK⟩
  have hl0 := lv_entry ([.ref (a 99), .int x1, .int x2]) (n := 4) (Nat.le_of_ble_eq_true rfl)
  rw [lg_entry_eq]
  generalize (lg_sl ([.ref (a 99), .int x1, .int x2]) ++ List.replicate (4 - (lg_sl ([.ref (a 99), .int x1, .int x2])).length) Slot.unset).toArray = ls0 at hl0 ⊢
  have hl0 : lv_has ls0 4 [(0, .ref (a 99)), (1, .int x1), (2, .int x2)] := hl0
  unfold m_X6_topOn at hm
  refine lv_aload_n hx hb dX6_topOn_0 rfl (lv_at hl0 0 rfl) ?_
  refine va_get (D := D) (ci := 6) (v := .ref (a 0)) (C := RX6) (T := TX6) (N := 40) hx hb hW iX6 hown hK hP0 0 rfl rfl 0 (by decide) (hW _ k_867) (fun _ h => h) rfl dX6_topOn_1 ?_
  refine lv_iload_n hx hb dX6_topOn_4 rfl (lv_at hl0 1 rfl) ?_
  refine lv_bipush (v := (6 : Int32)) hx hb dX6_topOn_5 (by decide) ?_
  refine lv_iadd hx hb dX6_topOn_7 ?_
  refine lv_iload_n hx hb dX6_topOn_8 rfl (lv_at hl0 2 rfl) ?_
  refine lv_iadd hx hb dX6_topOn_9 ?_
  obtain ⟨h1, hm⟩ := ckd hm
  refine va_iald (f := (v 50)) hx hb hK hP0 1 0 rfl rfl (inB_vp h1) dX6_topOn_10 ?_
  refine lv_istore_n (lv' := [(3, .int (v 50 ((((x1 + (6 : Int32)) + x2)).toNatClampNeg))), (0, .ref (a 99)), (1, .int x1), (2, .int x2)]) hx hb dX6_topOn_11 rfl hl0 (by decide) rfl (fun ls2 hl2 => ?_)
  clear hl0
  refine lv_iload_n hx hb dX6_topOn_12 rfl (lv_at hl2 0 rfl) ?_
  refine lv_if_ne (tgt := 21) hx hb dX6_topOn_13 (by decide) (fun c13 => ?_) (fun c13 => ?_)
  · replace hm := tn hm c13
    refine lv_aload_n hx hb dX6_topOn_21 rfl (lv_at hl2 1 rfl) ?_
    refine va_get (D := D) (ci := 6) (v := .ref (a 0)) (C := RX6) (T := TX6) (N := 40) hx hb hW iX6 hown hK hP0 0 rfl rfl 0 (by decide) (hW _ k_867) (fun _ h => h) rfl dX6_topOn_22 ?_
    refine lv_iload_n hx hb dX6_topOn_25 rfl (lv_at hl2 2 rfl) ?_
    refine lv_bipush (v := (12 : Int32)) hx hb dX6_topOn_26 (by decide) ?_
    refine lv_iadd hx hb dX6_topOn_28 ?_
    refine lv_iconst (v := (4 : Int32)) hx hb dX6_topOn_29 (by decide) ?_
    refine lv_iload_n hx hb dX6_topOn_30 rfl (lv_at hl2 3 rfl) ?_
    refine lv_imul hx hb dX6_topOn_31 ?_
    refine lv_iadd hx hb dX6_topOn_32 ?_
    refine lv_iload_n hx hb dX6_topOn_33 rfl (lv_at hl2 0 rfl) ?_
    refine lv_iadd hx hb dX6_topOn_34 ?_
    refine lv_iconst (v := (1 : Int32)) hx hb dX6_topOn_35 (by decide) ?_
    refine lv_isub hx hb dX6_topOn_36 ?_
    obtain ⟨h3, hm⟩ := ckd hm
    refine va_iald (f := (v 50)) hx hb hK hP0 1 0 rfl rfl (inB_vp h3) dX6_topOn_37 ?_
    exact eRi  X hr hlocks hm dX6_topOn_38
  · replace hm := tp hm c13
    refine lv_bipush (v := (-4 : Int32)) hx hb dX6_topOn_16 (by decide) ?_
    refine lv_goto (tgt := 38) hx hb dX6_topOn_18 (by decide) ?_
    exact eRi  X hr hlocks hm dX6_topOn_38
noncomputable def m_X6_rule_K4 (v : SV) (x1 : Int32) (z4 : Int32 × Int32) : Option (Int32) :=
  (if x1 = (0 : Int32) then some (v 0 1) else (if x1 = (1 : Int32) then some (v 0 2) else (if x1 = (2 : Int32) then some (v 0 4) else (if x1 = (3 : Int32) then some (v 0 6) else (if x1 = (4 : Int32) then some (v 50 (Int32.toNatClampNeg (61 : Int32))) else (if x1 = (5 : Int32) then (if (v 50 (Int32.toNatClampNeg (62 : Int32))) = 0 then some (-4 : Int32) else some ((v 50 (Int32.toNatClampNeg (62 : Int32))) - (1 : Int32))) else (if x1 = (6 : Int32) then some z4.1 else some (-1 : Int32))))))))
noncomputable def m_X6_rule_L4 (v : SV) (z4 : Int32 × Int32) : Option ((Int32 × Int32) ⊕ (Int32 × Int32)) :=
  (if (v 0 1) ≤ z4.2 then some (.inr (z4.1, z4.2)) else (m_X6_topOn v (0 : Int32) z4.2).bind (fun y16 => (if y16 = (-4 : Int32) then some (.inl ((z4.1 ||| ((1 : Int32) <<< (z4.2 &&& 31))), (z4.2 + (1 : Int32)))) else some (.inl ((z4.1 ||| (0 : Int32)), (z4.2 + (1 : Int32)))))))
noncomputable def m_X6_rule (v : SV) (x1 : Int32) : Option (Int32) :=
  (lpC (m_X6_rule_L4 v) ((0 : Int32), (0 : Int32))).bind (m_X6_rule_K4 v x1)
set_option maxHeartbeats 4000000 in
set_option maxRecDepth 100000 in
theorem c_X6_rule (l : Launch) (D : va_G) (q : Nat → ClassId) (a : Nat → Nat) (v : SV) (x1 : Int32) (res : Int32) (hm : m_X6_rule v x1 = some res) : Met l yX6_rule (mw yX6_rule cX6_rule 4 (some .int)) ({ frames := 1, cells := 0, slots := 0, locals := 23 } : Room) (pcR D q (wX6 q a v) [.ref (a 99), .int x1]) (vp_Si (fun x => x = res)) 0 0 (fun _ => False) := by
  refine Met.ofW (cc := cX6_rule) (maxL := 4) (ret := (some .int)) (by decide) rfl ?_
  intro p e s m args below meth c s₁ B hml hv
  obtain ⟨rfl, hP0, hK⟩ := hv
  have hx := B.exec
  have hb := B.bytes
  have hr := B.returns
  have hW := mw_ws (atoms_spec (ws := mw yX6_rule cX6_rule 4 (some .int)) B.pre)
  have hown : s.vm.findClass RX6 = some m.cls := findClass_of_methodNamed B.named
  have hlocks := B.notSynchronized
  have X : Cx p s m [.ref (a 99), .int x1].toArray c cX6_rule 4 RX6 D q := ⟨hx, hb, hml, hown, hW, hK⟩
  have hl0 := lv_entry ([.ref (a 99), .int x1]) (n := 4) (Nat.le_of_ble_eq_true rfl)
  rw [lg_entry_eq]
  generalize (lg_sl ([.ref (a 99), .int x1]) ++ List.replicate (4 - (lg_sl ([.ref (a 99), .int x1])).length) Slot.unset).toArray = ls0 at hl0 ⊢
  have hl0 : lv_has ls0 4 [(0, .ref (a 99)), (1, .int x1)] := hl0
  unfold m_X6_rule at hm
  refine lv_iconst (v := (0 : Int32)) hx hb dX6_rule_0 (by decide) ?_
  refine lv_istore_n (lv' := [(2, .int (0 : Int32)), (0, .ref (a 99)), (1, .int x1)]) hx hb dX6_rule_1 rfl hl0 (by decide) rfl (fun ls1 hl1 => ?_)
  clear hl0
  refine lv_iconst (v := (0 : Int32)) hx hb dX6_rule_2 (by decide) ?_
  refine lv_istore_n (lv' := [(3, .int (0 : Int32)), (2, .int (0 : Int32)), (0, .ref (a 99)), (1, .int x1)]) hx hb dX6_rule_3 rfl hl1 (by decide) rfl (fun ls2 hl2 => ?_)
  clear hl1
  obtain ⟨r4, hr4, hm⟩ := bn hm
  obtain ⟨n4, hn4⟩ := lpC_ex hr4
  have hE4 : ∀ z4 : Int32 × Int32, m_X6_rule_K4 v x1 z4 = some res → ∀ ls : Array Slot, lv_has ls 4 [(0, .ref (a 99)), (1, .int x1), (2, .int z4.1)] → W p l e ((headSpec (mw yX6_rule cX6_rule 4 (some .int)) ({ frames := 1, cells := 0, slots := 0, locals := 23 } : Room)).room) s m [.ref (a 99), .int x1].toArray below meth c s.heap [] 0 0 (MQ below (vp_Si (fun x => x = res)) [.ref (a 99), .int x1].toArray s 0 0 (fun _ => False)) (F0 m 39 ls []) := by
    intro z4 hm ls4 hl4
    unfold m_X6_rule_K4 at hm
    refine lv_iload_n hx hb dX6_rule_39 rfl (lv_at hl4 1 rfl) ?_
    by_cases c40_0 : x1 = (0 : Int32)
    · replace hm := tp hm c40_0
      refine lv_tableIn (off := 44) (tgt := 84) hx hb dX6_rule_40 (by rw [c40_0]; decide) (by rw [c40_0]; decide) (by rw [c40_0]; rfl) (by decide) ?_
      refine lv_aload_n hx hb dX6_rule_84 rfl (lv_at hl4 0 rfl) ?_
      refine va_get (D := D) (ci := 6) (v := .int (v 0 1)) (C := RX6) (T := TX6) (N := 40) hx hb hW iX6 hown hK hP0 0 rfl rfl 1 (by decide) (hW _ k_868) (fun _ h => h) rfl dX6_rule_85 ?_
      exact eRi  X hr hlocks hm dX6_rule_88
    · replace hm := tn hm c40_0
      by_cases c40_1 : x1 = (1 : Int32)
      · replace hm := tp hm c40_1
        refine lv_tableIn (off := 49) (tgt := 89) hx hb dX6_rule_40 (by rw [c40_1]; decide) (by rw [c40_1]; decide) (by rw [c40_1]; rfl) (by decide) ?_
        refine lv_aload_n hx hb dX6_rule_89 rfl (lv_at hl4 0 rfl) ?_
        refine va_get (D := D) (ci := 6) (v := .int (v 0 2)) (C := RX6) (T := TX6) (N := 40) hx hb hW iX6 hown hK hP0 0 rfl rfl 2 (by decide) (hW _ k_869) (fun _ h => h) rfl dX6_rule_90 ?_
        exact eRi  X hr hlocks hm dX6_rule_93
      · replace hm := tn hm c40_1
        by_cases c40_2 : x1 = (2 : Int32)
        · replace hm := tp hm c40_2
          refine lv_tableIn (off := 54) (tgt := 94) hx hb dX6_rule_40 (by rw [c40_2]; decide) (by rw [c40_2]; decide) (by rw [c40_2]; rfl) (by decide) ?_
          refine lv_aload_n hx hb dX6_rule_94 rfl (lv_at hl4 0 rfl) ?_
          refine va_get (D := D) (ci := 6) (v := .int (v 0 4)) (C := RX6) (T := TX6) (N := 40) hx hb hW iX6 hown hK hP0 0 rfl rfl 4 (by decide) (hW _ k_871) (fun _ h => h) rfl dX6_rule_95 ?_
          exact eRi  X hr hlocks hm dX6_rule_98
        · replace hm := tn hm c40_2
          by_cases c40_3 : x1 = (3 : Int32)
          · replace hm := tp hm c40_3
            refine lv_tableIn (off := 59) (tgt := 99) hx hb dX6_rule_40 (by rw [c40_3]; decide) (by rw [c40_3]; decide) (by rw [c40_3]; rfl) (by decide) ?_
            refine lv_aload_n hx hb dX6_rule_99 rfl (lv_at hl4 0 rfl) ?_
            refine va_get (D := D) (ci := 6) (v := .int (v 0 6)) (C := RX6) (T := TX6) (N := 40) hx hb hW iX6 hown hK hP0 0 rfl rfl 6 (by decide) (hW _ k_873) (fun _ h => h) rfl dX6_rule_100 ?_
            exact eRi  X hr hlocks hm dX6_rule_103
          · replace hm := tn hm c40_3
            by_cases c40_4 : x1 = (4 : Int32)
            · replace hm := tp hm c40_4
              refine lv_tableIn (off := 64) (tgt := 104) hx hb dX6_rule_40 (by rw [c40_4]; decide) (by rw [c40_4]; decide) (by rw [c40_4]; rfl) (by decide) ?_
              refine lv_aload_n hx hb dX6_rule_104 rfl (lv_at hl4 0 rfl) ?_
              refine va_get (D := D) (ci := 6) (v := .ref (a 0)) (C := RX6) (T := TX6) (N := 40) hx hb hW iX6 hown hK hP0 0 rfl rfl 0 (by decide) (hW _ k_867) (fun _ h => h) rfl dX6_rule_105 ?_
              refine lv_bipush (v := (61 : Int32)) hx hb dX6_rule_108 (by decide) ?_
              refine va_iald (f := (v 50)) hx hb hK hP0 1 0 rfl rfl (inB_vp (by decide)) dX6_rule_110 ?_
              exact eRi  X hr hlocks hm dX6_rule_111
            · replace hm := tn hm c40_4
              by_cases c40_5 : x1 = (5 : Int32)
              · replace hm := tp hm c40_5
                refine lv_tableIn (off := 72) (tgt := 112) hx hb dX6_rule_40 (by rw [c40_5]; decide) (by rw [c40_5]; decide) (by rw [c40_5]; rfl) (by decide) ?_
                refine lv_aload_n hx hb dX6_rule_112 rfl (lv_at hl4 0 rfl) ?_
                refine va_get (D := D) (ci := 6) (v := .ref (a 0)) (C := RX6) (T := TX6) (N := 40) hx hb hW iX6 hown hK hP0 0 rfl rfl 0 (by decide) (hW _ k_867) (fun _ h => h) rfl dX6_rule_113 ?_
                refine lv_bipush (v := (62 : Int32)) hx hb dX6_rule_116 (by decide) ?_
                refine va_iald (f := (v 50)) hx hb hK hP0 1 0 rfl rfl (inB_vp (by decide)) dX6_rule_118 ?_
                refine lv_if_ne (tgt := 127) hx hb dX6_rule_119 (by decide) (fun c119 => ?_) (fun c119 => ?_)
                · replace hm := tn hm c119
                  refine lv_aload_n hx hb dX6_rule_127 rfl (lv_at hl4 0 rfl) ?_
                  refine va_get (D := D) (ci := 6) (v := .ref (a 0)) (C := RX6) (T := TX6) (N := 40) hx hb hW iX6 hown hK hP0 0 rfl rfl 0 (by decide) (hW _ k_867) (fun _ h => h) rfl dX6_rule_128 ?_
                  refine lv_bipush (v := (62 : Int32)) hx hb dX6_rule_131 (by decide) ?_
                  refine va_iald (f := (v 50)) hx hb hK hP0 1 0 rfl rfl (inB_vp (by decide)) dX6_rule_133 ?_
                  refine lv_iconst (v := (1 : Int32)) hx hb dX6_rule_134 (by decide) ?_
                  refine lv_isub hx hb dX6_rule_135 ?_
                  exact eRi  X hr hlocks hm dX6_rule_136
                · replace hm := tp hm c119
                  refine lv_bipush (v := (-4 : Int32)) hx hb dX6_rule_122 (by decide) ?_
                  refine lv_goto (tgt := 136) hx hb dX6_rule_124 (by decide) ?_
                  exact eRi  X hr hlocks hm dX6_rule_136
              · replace hm := tn hm c40_5
                by_cases c40_6 : x1 = (6 : Int32)
                · replace hm := tp hm c40_6
                  refine lv_tableIn (off := 97) (tgt := 137) hx hb dX6_rule_40 (by rw [c40_6]; decide) (by rw [c40_6]; decide) (by rw [c40_6]; rfl) (by decide) ?_
                  refine lv_iload_n hx hb dX6_rule_137 rfl (lv_at hl4 2 rfl) ?_
                  exact eRi  X hr hlocks hm dX6_rule_138
                · replace hm := tn hm c40_6
                  have hk40 : x1.toInt < 0 ∨ 6 < x1.toInt := by
                    have g0 := lv_neT c40_0 (show ((0 : Int32)).toInt = 0 from rfl)
                    have g1 := lv_neT c40_1 (show ((1 : Int32)).toInt = 1 from rfl)
                    have g2 := lv_neT c40_2 (show ((2 : Int32)).toInt = 2 from rfl)
                    have g3 := lv_neT c40_3 (show ((3 : Int32)).toInt = 3 from rfl)
                    have g4 := lv_neT c40_4 (show ((4 : Int32)).toInt = 4 from rfl)
                    have g5 := lv_neT c40_5 (show ((5 : Int32)).toInt = 5 from rfl)
                    have g6 := lv_neT c40_6 (show ((6 : Int32)).toInt = 6 from rfl)
                    omega
                  refine lv_tableOut (tgt := 139) hx hb dX6_rule_40 hk40 (by decide) ?_
                  refine lv_iconst (v := (-1 : Int32)) hx hb dX6_rule_139 (by decide) ?_
                  exact eRi  X hr hlocks hm dX6_rule_140
  have hL4 : ∀ (n : Nat) (z4 : Int32 × Int32) (ρ4 : Int32 × Int32), lpO (m_X6_rule_L4 v) n z4 = some ρ4 → (m_X6_rule_K4 v x1) ρ4 = some res → ∀ ls : Array Slot, lv_has ls 4 [(0, .ref (a 99)), (1, .int x1), (2, .int z4.1), (3, .int z4.2)] → W p l e ((headSpec (mw yX6_rule cX6_rule 4 (some .int)) ({ frames := 1, cells := 0, slots := 0, locals := 23 } : Room)).room) s m [.ref (a 99), .int x1].toArray below meth c s.heap [] 0 0 (MQ below (vp_Si (fun x => x = res)) [.ref (a 99), .int x1].toArray s 0 0 (fun _ => False)) (F0 m 4 ls []) := by
    intro n
    induction n with
    | zero => intro _ _ h; cases h
    | succ n ih4 =>
      intro z4 ρ4 hz4 hK4 ls3 hl3
      obtain ⟨t4, hm, hz4⟩ := bn hz4
      unfold m_X6_rule_L4 at hm
      refine lv_iload_n hx hb dX6_rule_4 rfl (lv_at hl3 3 rfl) ?_
      refine lv_aload_n hx hb dX6_rule_5 rfl (lv_at hl3 0 rfl) ?_
      refine va_get (D := D) (ci := 6) (v := .int (v 0 1)) (C := RX6) (T := TX6) (N := 40) hx hb hW iX6 hown hK hP0 0 rfl rfl 1 (by decide) (hW _ k_868) (fun _ h => h) rfl dX6_rule_6 ?_
      refine lv_icmp_ge (tgt := 39) hx hb dX6_rule_9 (by decide) (fun c9 => ?_) (fun c9 => ?_)
      · replace hm := tp hm c9
        cases hm
        cases hz4
        exact hE4 (z4.1, z4.2) hK4 _ (lv_sub hl3 [0, 1, 2] rfl)
      · replace hm := tn hm c9
        refine lv_iload_n hx hb dX6_rule_12 rfl (lv_at hl3 2 rfl) ?_
        refine lv_aload_n hx hb dX6_rule_13 rfl (lv_at hl3 0 rfl) ?_
        refine lv_iconst (v := (0 : Int32)) hx hb dX6_rule_14 (by decide) ?_
        refine lv_iload_n hx hb dX6_rule_15 rfl (lv_at hl3 3 rfl) ?_
        obtain ⟨y16, hy16, hm⟩ := bn hm
        refine cVRi (As := [.int (0 : Int32), .int z4.2]) (rest := [.int z4.1]) X hP0 hl3.1 (c_X6_topOn l D q a v (0 : Int32) z4.2 y16 hy16) [0, 1, 2, 3, 4, 5, 6, 7, 8, 9, 10, 11, 12, 13, 14, 15, 16, 17] rfl 0 rfl rfl rfl k_1078 mX6_topOn ⟨rfl, rfl⟩ ⟨Nat.le_of_ble_eq_true rfl, Nat.le_of_ble_eq_true rfl⟩ rfl rfl (Nat.le_of_ble_eq_true rfl) dX6_rule_16 ⟨Nat.zero_le _, Nat.zero_le _⟩ ?_
        refine lv_bipush (v := (-4 : Int32)) hx hb dX6_rule_19 (by decide) ?_
        refine lv_icmp_ne (tgt := 30) hx hb dX6_rule_21 (by decide) (fun c21 => ?_) (fun c21 => ?_)
        · replace hm := tn hm c21
          refine lv_iconst (v := (0 : Int32)) hx hb dX6_rule_30 (by decide) ?_
          refine lv_ior hx hb dX6_rule_31 ?_
          refine lv_istore_n (lv' := [(2, .int (z4.1 ||| (0 : Int32))), (0, .ref (a 99)), (1, .int x1), (3, .int z4.2)]) hx hb dX6_rule_32 rfl hl3 (by decide) rfl (fun ls7 hl7 => ?_)
          clear hl3
          refine lv_iinc (v := (z4.2 + (1 : Int32))) (lv' := [(3, .int (z4.2 + (1 : Int32))), (2, .int (z4.1 ||| (0 : Int32))), (0, .ref (a 99)), (1, .int x1)]) hx hb dX6_rule_33 hl7 (k := 3) rfl rfl (by decide) rfl (fun ls8 hl8 => ?_)
          clear hl7
          refine lv_goto (tgt := 4) hx hb dX6_rule_36 (by decide) ?_
          cases hm
          exact ih4 ((z4.1 ||| (0 : Int32)), (z4.2 + (1 : Int32))) ρ4 hz4 hK4 _ (lv_sub hl8 [2, 3, 1, 0] rfl)
        · replace hm := tp hm c21
          refine lv_iconst (v := (1 : Int32)) hx hb dX6_rule_24 (by decide) ?_
          refine lv_iload_n hx hb dX6_rule_25 rfl (lv_at hl3 3 rfl) ?_
          refine lv_ishl hx hb dX6_rule_26 ?_
          refine lv_goto (tgt := 31) hx hb dX6_rule_27 (by decide) ?_
          refine lv_ior hx hb dX6_rule_31 ?_
          refine lv_istore_n (lv' := [(2, .int (z4.1 ||| ((1 : Int32) <<< (z4.2 &&& 31)))), (0, .ref (a 99)), (1, .int x1), (3, .int z4.2)]) hx hb dX6_rule_32 rfl hl3 (by decide) rfl (fun ls5 hl5 => ?_)
          clear hl3
          refine lv_iinc (v := (z4.2 + (1 : Int32))) (lv' := [(3, .int (z4.2 + (1 : Int32))), (2, .int (z4.1 ||| ((1 : Int32) <<< (z4.2 &&& 31)))), (0, .ref (a 99)), (1, .int x1)]) hx hb dX6_rule_33 hl5 (k := 3) rfl rfl (by decide) rfl (fun ls6 hl6 => ?_)
          clear hl5
          refine lv_goto (tgt := 4) hx hb dX6_rule_36 (by decide) ?_
          cases hm
          exact ih4 ((z4.1 ||| ((1 : Int32) <<< (z4.2 &&& 31))), (z4.2 + (1 : Int32))) ρ4 hz4 hK4 _ (lv_sub hl6 [2, 3, 1, 0] rfl)
  exact hL4 n4 ((0 : Int32), (0 : Int32)) r4 hn4 hm _ (lv_sub hl2 [2, 3, 1, 0] rfl)
noncomputable def m_X6_worthOf (v : SV) (x1 : Int32) : Option (Int32) :=
  ck (inB x1 315) (some ((v 50 ((x1).toNatClampNeg)) + (1 : Int32)))
set_option maxHeartbeats 4000000 in
set_option maxRecDepth 100000 in
theorem c_X6_worthOf (l : Launch) (D : va_G) (q : Nat → ClassId) (a : Nat → Nat) (v : SV) (x1 : Int32) (res : Int32) (hm : m_X6_worthOf v x1 = some res) : Met l yX6_worthOf (mw yX6_worthOf cX6_worthOf 2 (some .int)) ({ frames := 0, cells := 0, slots := 0, locals := 0 } : Room) (pcR D q (wX6 q a v) [.ref (a 99), .int x1]) (vp_Si (fun x => x = res)) 0 0 (fun _ => False) := by
  refine Met.ofW (cc := cX6_worthOf) (maxL := 2) (ret := (some .int)) (by decide) rfl ?_
  intro p e s m args below meth c s₁ B hml hv
  obtain ⟨rfl, hP0, hK⟩ := hv
  have hx := B.exec
  have hb := B.bytes
  have hr := B.returns
  have hW := mw_ws (atoms_spec (ws := mw yX6_worthOf cX6_worthOf 2 (some .int)) B.pre)
  have hown : s.vm.findClass RX6 = some m.cls := findClass_of_methodNamed B.named
  have hlocks := B.notSynchronized
  have X : Cx p s m [.ref (a 99), .int x1].toArray c cX6_worthOf 2 RX6 D q := ⟨hx, hb, hml, hown, hW, hK⟩
  have hl0 := lv_entry ([.ref (a 99), .int x1]) (n := 2) (Nat.le_of_ble_eq_true rfl)
  rw [lg_entry_eq]
  generalize (lg_sl ([.ref (a 99), .int x1]) ++ List.replicate (2 - (lg_sl ([.ref (a 99), .int x1])).length) Slot.unset).toArray = ls0 at hl0 ⊢
  have hl0 : lv_has ls0 2 [(0, .ref (a 99)), (1, .int x1)] := hl0
  unfold m_X6_worthOf at hm
  refine lv_aload_n hx hb dX6_worthOf_0 rfl (lv_at hl0 0 rfl) ?_
  refine va_get (D := D) (ci := 6) (v := .ref (a 0)) (C := RX6) (T := TX6) (N := 40) hx hb hW iX6 hown hK hP0 0 rfl rfl 0 (by decide) (hW _ k_867) (fun _ h => h) rfl dX6_worthOf_1 ?_
  refine lv_iload_n hx hb dX6_worthOf_4 rfl (lv_at hl0 1 rfl) ?_
  obtain ⟨h1, hm⟩ := ckd hm
  refine va_iald (f := (v 50)) hx hb hK hP0 1 0 rfl rfl (inB_vp h1) dX6_worthOf_5 ?_
  refine lv_iconst (v := (1 : Int32)) hx hb dX6_worthOf_6 (by decide) ?_
  refine lv_iadd hx hb dX6_worthOf_7 ?_
  exact eRi  X hr hlocks hm dX6_worthOf_8
noncomputable def m_X6_part (v : SV) (x1 : Int32) (x2 : Int32) : Option (Int32) :=
  (m_X6_isPart v x1).bind (fun y2 => (if y2 = 0 then some (-1 : Int32) else (if x2 = (0 : Int32) then (m_X6_worthOf v x1).bind (fun y38 => some y38) else (if x2 = (1 : Int32) then ck (inB ((6 : Int32) + x1) 315) (some (v 50 ((((6 : Int32) + x1)).toNatClampNeg))) else (if x2 = (2 : Int32) then (m_X6_topOn v (0 : Int32) x1).bind (fun y55 => some y55) else some (-1 : Int32))))))
set_option maxHeartbeats 4000000 in
set_option maxRecDepth 100000 in
theorem c_X6_part (l : Launch) (D : va_G) (q : Nat → ClassId) (a : Nat → Nat) (v : SV) (x1 : Int32) (x2 : Int32) (res : Int32) (hm : m_X6_part v x1 x2 = some res) : Met l yX6_part (mw yX6_part cX6_part 3 (some .int)) ({ frames := 2, cells := 0, slots := 0, locals := 46 } : Room) (pcR D q (wX6 q a v) [.ref (a 99), .int x1, .int x2]) (vp_Si (fun x => x = res)) 0 0 (fun _ => False) := by
  refine Met.ofW (cc := cX6_part) (maxL := 3) (ret := (some .int)) (by decide) rfl ?_
  intro p e s m args below meth c s₁ B hml hv
  obtain ⟨rfl, hP0, hK⟩ := hv
  have hx := B.exec
  have hb := B.bytes
  have hr := B.returns
  have hW := mw_ws (atoms_spec (ws := mw yX6_part cX6_part 3 (some .int)) B.pre)
  have hown : s.vm.findClass RX6 = some m.cls := findClass_of_methodNamed B.named
  have hlocks := B.notSynchronized
  have X : Cx p s m [.ref (a 99), .int x1, .int x2].toArray c cX6_part 3 RX6 D q := ⟨hx, hb, hml, hown, hW, hK⟩
  have hl0 := lv_entry ([.ref (a 99), .int x1, .int x2]) (n := 3) (Nat.le_of_ble_eq_true rfl)
  rw [lg_entry_eq]
  generalize (lg_sl ([.ref (a 99), .int x1, .int x2]) ++ List.replicate (3 - (lg_sl ([.ref (a 99), .int x1, .int x2])).length) Slot.unset).toArray = ls0 at hl0 ⊢
  have hl0 : lv_has ls0 3 [(0, .ref (a 99)), (1, .int x1), (2, .int x2)] := hl0
  unfold m_X6_part at hm
  refine lv_aload_n hx hb dX6_part_0 rfl (lv_at hl0 0 rfl) ?_
  refine lv_iload_n hx hb dX6_part_1 rfl (lv_at hl0 1 rfl) ?_
  obtain ⟨y2, hy2, hm⟩ := bn hm
  refine cVRi (As := [.int x1]) (rest := []) X hP0 hl0.1 (c_X6_isPart l D q a v x1 y2 hy2) [0, 1, 2, 3, 4, 5, 6, 7, 8, 9, 10, 11, 12, 13, 14, 15, 16, 17] rfl 0 rfl rfl rfl k_1086 mX6_isPart ⟨rfl, rfl⟩ ⟨Nat.le_of_ble_eq_true rfl, Nat.le_of_ble_eq_true rfl⟩ rfl rfl (Nat.le_of_ble_eq_true rfl) dX6_part_2 ⟨Nat.zero_le _, Nat.zero_le _⟩ ?_
  refine lv_if_ne (tgt := 10) hx hb dX6_part_5 (by decide) (fun c5 => ?_) (fun c5 => ?_)
  · replace hm := tn hm c5
    refine lv_iload_n hx hb dX6_part_10 rfl (lv_at hl0 2 rfl) ?_
    by_cases c11_0 : x2 = (0 : Int32)
    · replace hm := tp hm c11_0
      refine lv_tableIn (off := 25) (tgt := 36) hx hb dX6_part_11 (by rw [c11_0]; decide) (by rw [c11_0]; decide) (by rw [c11_0]; rfl) (by decide) ?_
      refine lv_aload_n hx hb dX6_part_36 rfl (lv_at hl0 0 rfl) ?_
      refine lv_iload_n hx hb dX6_part_37 rfl (lv_at hl0 1 rfl) ?_
      obtain ⟨y38, hy38, hm⟩ := bn hm
      refine cVRi (As := [.int x1]) (rest := []) X hP0 hl0.1 (c_X6_worthOf l D q a v x1 y38 hy38) [0, 1, 2, 3, 4, 5, 6, 7, 8, 9, 10, 11, 12, 13, 14, 15, 16, 17] rfl 0 rfl rfl rfl k_1090 mX6_worthOf ⟨rfl, rfl⟩ ⟨Nat.le_of_ble_eq_true rfl, Nat.le_of_ble_eq_true rfl⟩ rfl rfl (Nat.le_of_ble_eq_true rfl) dX6_part_38 ⟨Nat.zero_le _, Nat.zero_le _⟩ ?_
      exact eRi  X hr hlocks hm dX6_part_41
    · replace hm := tn hm c11_0
      by_cases c11_1 : x2 = (1 : Int32)
      · replace hm := tp hm c11_1
        refine lv_tableIn (off := 31) (tgt := 42) hx hb dX6_part_11 (by rw [c11_1]; decide) (by rw [c11_1]; decide) (by rw [c11_1]; rfl) (by decide) ?_
        refine lv_aload_n hx hb dX6_part_42 rfl (lv_at hl0 0 rfl) ?_
        refine va_get (D := D) (ci := 6) (v := .ref (a 0)) (C := RX6) (T := TX6) (N := 40) hx hb hW iX6 hown hK hP0 0 rfl rfl 0 (by decide) (hW _ k_867) (fun _ h => h) rfl dX6_part_43 ?_
        refine lv_bipush (v := (6 : Int32)) hx hb dX6_part_46 (by decide) ?_
        refine lv_iload_n hx hb dX6_part_48 rfl (lv_at hl0 1 rfl) ?_
        refine lv_iadd hx hb dX6_part_49 ?_
        obtain ⟨h1, hm⟩ := ckd hm
        refine va_iald (f := (v 50)) hx hb hK hP0 1 0 rfl rfl (inB_vp h1) dX6_part_50 ?_
        exact eRi  X hr hlocks hm dX6_part_51
      · replace hm := tn hm c11_1
        by_cases c11_2 : x2 = (2 : Int32)
        · replace hm := tp hm c11_2
          refine lv_tableIn (off := 41) (tgt := 52) hx hb dX6_part_11 (by rw [c11_2]; decide) (by rw [c11_2]; decide) (by rw [c11_2]; rfl) (by decide) ?_
          refine lv_aload_n hx hb dX6_part_52 rfl (lv_at hl0 0 rfl) ?_
          refine lv_iconst (v := (0 : Int32)) hx hb dX6_part_53 (by decide) ?_
          refine lv_iload_n hx hb dX6_part_54 rfl (lv_at hl0 1 rfl) ?_
          obtain ⟨y55, hy55, hm⟩ := bn hm
          refine cVRi (As := [.int (0 : Int32), .int x1]) (rest := []) X hP0 hl0.1 (c_X6_topOn l D q a v (0 : Int32) x1 y55 hy55) [0, 1, 2, 3, 4, 5, 6, 7, 8, 9, 10, 11, 12, 13, 14, 15, 16, 17] rfl 0 rfl rfl rfl k_1078 mX6_topOn ⟨rfl, rfl⟩ ⟨Nat.le_of_ble_eq_true rfl, Nat.le_of_ble_eq_true rfl⟩ rfl rfl (Nat.le_of_ble_eq_true rfl) dX6_part_55 ⟨Nat.zero_le _, Nat.zero_le _⟩ ?_
          exact eRi  X hr hlocks hm dX6_part_58
        · replace hm := tn hm c11_2
          have hk11 : x2.toInt < 0 ∨ 2 < x2.toInt := by
            have g0 := lv_neT c11_0 (show ((0 : Int32)).toInt = 0 from rfl)
            have g1 := lv_neT c11_1 (show ((1 : Int32)).toInt = 1 from rfl)
            have g2 := lv_neT c11_2 (show ((2 : Int32)).toInt = 2 from rfl)
            omega
          refine lv_tableOut (tgt := 59) hx hb dX6_part_11 hk11 (by decide) ?_
          refine lv_iconst (v := (-1 : Int32)) hx hb dX6_part_59 (by decide) ?_
          exact eRi  X hr hlocks hm dX6_part_60
  · replace hm := tp hm c5
    refine lv_iconst (v := (-1 : Int32)) hx hb dX6_part_8 (by decide) ?_
    exact eRi  X hr hlocks hm dX6_part_9
noncomputable def m_X6_layer (v : SV) (x1 : Int32) (x2 : Int32) : Option (Int32) :=
  (m_X6_isPart v x1).bind (fun y2 => (if y2 = 0 then some (-1 : Int32) else ck (inB ((6 : Int32) + x1) 315) ((m_X6_in (x2.toInt64) (0 : Int64) (((v 50 ((((6 : Int32) + x1)).toNatClampNeg)) - (1 : Int32)).toInt64)).bind (fun y23 => (if y23 = 0 then some (-1 : Int32) else ck (inB (((12 : Int32) + ((4 : Int32) * x1)) + x2) 315) (some (v 50 (((((12 : Int32) + ((4 : Int32) * x1)) + x2)).toNatClampNeg))))))))
set_option maxHeartbeats 4000000 in
set_option maxRecDepth 100000 in
theorem c_X6_layer (l : Launch) (D : va_G) (q : Nat → ClassId) (a : Nat → Nat) (v : SV) (x1 : Int32) (x2 : Int32) (res : Int32) (hm : m_X6_layer v x1 x2 = some res) : Met l yX6_layer (mw yX6_layer cX6_layer 3 (some .int)) ({ frames := 2, cells := 0, slots := 0, locals := 46 } : Room) (pcR D q (wX6 q a v) [.ref (a 99), .int x1, .int x2]) (vp_Si (fun x => x = res)) 0 0 (fun _ => False) := by
  refine Met.ofW (cc := cX6_layer) (maxL := 3) (ret := (some .int)) (by decide) rfl ?_
  intro p e s m args below meth c s₁ B hml hv
  obtain ⟨rfl, hP0, hK⟩ := hv
  have hx := B.exec
  have hb := B.bytes
  have hr := B.returns
  have hW := mw_ws (atoms_spec (ws := mw yX6_layer cX6_layer 3 (some .int)) B.pre)
  have hown : s.vm.findClass RX6 = some m.cls := findClass_of_methodNamed B.named
  have hlocks := B.notSynchronized
  have X : Cx p s m [.ref (a 99), .int x1, .int x2].toArray c cX6_layer 3 RX6 D q := ⟨hx, hb, hml, hown, hW, hK⟩
  have hl0 := lv_entry ([.ref (a 99), .int x1, .int x2]) (n := 3) (Nat.le_of_ble_eq_true rfl)
  rw [lg_entry_eq]
  generalize (lg_sl ([.ref (a 99), .int x1, .int x2]) ++ List.replicate (3 - (lg_sl ([.ref (a 99), .int x1, .int x2])).length) Slot.unset).toArray = ls0 at hl0 ⊢
  have hl0 : lv_has ls0 3 [(0, .ref (a 99)), (1, .int x1), (2, .int x2)] := hl0
  unfold m_X6_layer at hm
  refine lv_aload_n hx hb dX6_layer_0 rfl (lv_at hl0 0 rfl) ?_
  refine lv_iload_n hx hb dX6_layer_1 rfl (lv_at hl0 1 rfl) ?_
  obtain ⟨y2, hy2, hm⟩ := bn hm
  refine cVRi (As := [.int x1]) (rest := []) X hP0 hl0.1 (c_X6_isPart l D q a v x1 y2 hy2) [0, 1, 2, 3, 4, 5, 6, 7, 8, 9, 10, 11, 12, 13, 14, 15, 16, 17] rfl 0 rfl rfl rfl k_1086 mX6_isPart ⟨rfl, rfl⟩ ⟨Nat.le_of_ble_eq_true rfl, Nat.le_of_ble_eq_true rfl⟩ rfl rfl (Nat.le_of_ble_eq_true rfl) dX6_layer_2 ⟨Nat.zero_le _, Nat.zero_le _⟩ ?_
  refine lv_if_eq (tgt := 45) hx hb dX6_layer_5 (by decide) (fun c5 => ?_) (fun c5 => ?_)
  · replace hm := tp hm c5
    refine lv_iconst (v := (-1 : Int32)) hx hb dX6_layer_45 (by decide) ?_
    exact eRi  X hr hlocks hm dX6_layer_46
  · replace hm := tn hm c5
    refine lv_iload_n hx hb dX6_layer_8 rfl (lv_at hl0 2 rfl) ?_
    refine lv_i2l hx hb dX6_layer_9 rfl ?_
    refine lv_lconst (v := (0 : Int64)) hx hb dX6_layer_10 (by decide) ?_
    refine lv_aload_n hx hb dX6_layer_11 rfl (lv_at hl0 0 rfl) ?_
    refine va_get (D := D) (ci := 6) (v := .ref (a 0)) (C := RX6) (T := TX6) (N := 40) hx hb hW iX6 hown hK hP0 0 rfl rfl 0 (by decide) (hW _ k_867) (fun _ h => h) rfl dX6_layer_12 ?_
    refine lv_bipush (v := (6 : Int32)) hx hb dX6_layer_15 (by decide) ?_
    refine lv_iload_n hx hb dX6_layer_17 rfl (lv_at hl0 1 rfl) ?_
    refine lv_iadd hx hb dX6_layer_18 ?_
    obtain ⟨h1, hm⟩ := ckd hm
    refine va_iald (f := (v 50)) hx hb hK hP0 1 0 rfl rfl (inB_vp h1) dX6_layer_19 ?_
    refine lv_iconst (v := (1 : Int32)) hx hb dX6_layer_20 (by decide) ?_
    refine lv_isub hx hb dX6_layer_21 ?_
    refine lv_i2l hx hb dX6_layer_22 rfl ?_
    obtain ⟨y23, hy23, hm⟩ := bn hm
    refine cSRi (As := [.long (x2.toInt64), .long (0 : Int64), .long (((v 50 ((((6 : Int32) + x1)).toNatClampNeg)) - (1 : Int32)).toInt64)]) (rest := []) X hP0 hl0.1 (c_X6_in l D q (x2.toInt64) (0 : Int64) (((v 50 ((((6 : Int32) + x1)).toNatClampNeg)) - (1 : Int32)).toInt64) y23 hy23) [] rfl k_993 mX6_in ⟨rfl, rfl⟩ ⟨Nat.le_of_ble_eq_true rfl, Nat.le_of_ble_eq_true rfl⟩ rfl rfl (Nat.le_of_ble_eq_true rfl) dX6_layer_23 ⟨Nat.zero_le _, Nat.zero_le _⟩ ?_
    refine lv_if_eq (tgt := 45) hx hb dX6_layer_26 (by decide) (fun c26 => ?_) (fun c26 => ?_)
    · replace hm := tp hm c26
      refine lv_iconst (v := (-1 : Int32)) hx hb dX6_layer_45 (by decide) ?_
      exact eRi  X hr hlocks hm dX6_layer_46
    · replace hm := tn hm c26
      refine lv_aload_n hx hb dX6_layer_29 rfl (lv_at hl0 0 rfl) ?_
      refine va_get (D := D) (ci := 6) (v := .ref (a 0)) (C := RX6) (T := TX6) (N := 40) hx hb hW iX6 hown hK hP0 0 rfl rfl 0 (by decide) (hW _ k_867) (fun _ h => h) rfl dX6_layer_30 ?_
      refine lv_bipush (v := (12 : Int32)) hx hb dX6_layer_33 (by decide) ?_
      refine lv_iconst (v := (4 : Int32)) hx hb dX6_layer_35 (by decide) ?_
      refine lv_iload_n hx hb dX6_layer_36 rfl (lv_at hl0 1 rfl) ?_
      refine lv_imul hx hb dX6_layer_37 ?_
      refine lv_iadd hx hb dX6_layer_38 ?_
      refine lv_iload_n hx hb dX6_layer_39 rfl (lv_at hl0 2 rfl) ?_
      refine lv_iadd hx hb dX6_layer_40 ?_
      obtain ⟨h2, hm⟩ := ckd hm
      refine va_iald (f := (v 50)) hx hb hK hP0 1 0 rfl rfl (inB_vp h2) dX6_layer_41 ?_
      refine lv_goto (tgt := 46) hx hb dX6_layer_42 (by decide) ?_
      exact eRi  X hr hlocks hm dX6_layer_46
noncomputable def m_X6_shownOn_K5 (z5 : Int32 × Int32) : Option (Int32) :=
  some z5.1
noncomputable def m_X6_shownOn_L5 (v : SV) (x1 : Int32) (x2 : Int32) (z5 : Int32 × Int32) : Option ((Int32 × Int32) ⊕ (Int32 × Int32)) :=
  (if (v 0 1) ≤ z5.2 then some (.inr (z5.1, z5.2)) else (m_X6_topOn v x1 z5.2).bind (fun y19 => (if y19 = x2 then some (.inl ((z5.1 ||| ((1 : Int32) <<< (z5.2 &&& 31))), (z5.2 + (1 : Int32)))) else some (.inl ((z5.1 ||| (0 : Int32)), (z5.2 + (1 : Int32)))))))
noncomputable def m_X6_shownOn (v : SV) (x1 : Int32) (x2 : Int32) : Option (Int32) :=
  (lpC (m_X6_shownOn_L5 v x1 x2) ((0 : Int32), (0 : Int32))).bind (m_X6_shownOn_K5)
set_option maxHeartbeats 4000000 in
set_option maxRecDepth 100000 in
theorem c_X6_shownOn (l : Launch) (D : va_G) (q : Nat → ClassId) (a : Nat → Nat) (v : SV) (x1 : Int32) (x2 : Int32) (res : Int32) (hm : m_X6_shownOn v x1 x2 = some res) : Met l yX6_shownOn (mw yX6_shownOn cX6_shownOn 5 (some .int)) ({ frames := 1, cells := 0, slots := 0, locals := 23 } : Room) (pcR D q (wX6 q a v) [.ref (a 99), .int x1, .int x2]) (vp_Si (fun x => x = res)) 0 0 (fun _ => False) := by
  refine Met.ofW (cc := cX6_shownOn) (maxL := 5) (ret := (some .int)) (by decide) rfl ?_
  intro p e s m args below meth c s₁ B hml hv
  obtain ⟨rfl, hP0, hK⟩ := hv
  have hx := B.exec
  have hb := B.bytes
  have hr := B.returns
  have hW := mw_ws (atoms_spec (ws := mw yX6_shownOn cX6_shownOn 5 (some .int)) B.pre)
  have hown : s.vm.findClass RX6 = some m.cls := findClass_of_methodNamed B.named
  have hlocks := B.notSynchronized
  have X : Cx p s m [.ref (a 99), .int x1, .int x2].toArray c cX6_shownOn 5 RX6 D q := ⟨hx, hb, hml, hown, hW, hK⟩
  have hl0 := lv_entry ([.ref (a 99), .int x1, .int x2]) (n := 5) (Nat.le_of_ble_eq_true rfl)
  rw [lg_entry_eq]
  generalize (lg_sl ([.ref (a 99), .int x1, .int x2]) ++ List.replicate (5 - (lg_sl ([.ref (a 99), .int x1, .int x2])).length) Slot.unset).toArray = ls0 at hl0 ⊢
  have hl0 : lv_has ls0 5 [(0, .ref (a 99)), (1, .int x1), (2, .int x2)] := hl0
  unfold m_X6_shownOn at hm
  refine lv_iconst (v := (0 : Int32)) hx hb dX6_shownOn_0 (by decide) ?_
  refine lv_istore_n (lv' := [(3, .int (0 : Int32)), (0, .ref (a 99)), (1, .int x1), (2, .int x2)]) hx hb dX6_shownOn_1 rfl hl0 (by decide) rfl (fun ls1 hl1 => ?_)
  clear hl0
  refine lv_iconst (v := (0 : Int32)) hx hb dX6_shownOn_2 (by decide) ?_
  refine lv_istore (lv' := [(4, .int (0 : Int32)), (3, .int (0 : Int32)), (0, .ref (a 99)), (1, .int x1), (2, .int x2)]) hx hb dX6_shownOn_3 hl1 (by decide) rfl (fun ls2 hl2 => ?_)
  clear hl1
  obtain ⟨r5, hr5, hm⟩ := bn hm
  obtain ⟨n5, hn5⟩ := lpC_ex hr5
  have hE5 : ∀ z5 : Int32 × Int32, m_X6_shownOn_K5 z5 = some res → ∀ ls : Array Slot, lv_has ls 5 [(3, .int z5.1)] → W p l e ((headSpec (mw yX6_shownOn cX6_shownOn 5 (some .int)) ({ frames := 1, cells := 0, slots := 0, locals := 23 } : Room)).room) s m [.ref (a 99), .int x1, .int x2].toArray below meth c s.heap [] 0 0 (MQ below (vp_Si (fun x => x = res)) [.ref (a 99), .int x1, .int x2].toArray s 0 0 (fun _ => False)) (F0 m 42 ls []) := by
    intro z5 hm ls4 hl4
    unfold m_X6_shownOn_K5 at hm
    refine lv_iload_n hx hb dX6_shownOn_42 rfl (lv_at hl4 0 rfl) ?_
    exact eRi  X hr hlocks hm dX6_shownOn_43
  have hL5 : ∀ (n : Nat) (z5 : Int32 × Int32) (ρ5 : Int32 × Int32), lpO (m_X6_shownOn_L5 v x1 x2) n z5 = some ρ5 → (m_X6_shownOn_K5) ρ5 = some res → ∀ ls : Array Slot, lv_has ls 5 [(0, .ref (a 99)), (1, .int x1), (2, .int x2), (3, .int z5.1), (4, .int z5.2)] → W p l e ((headSpec (mw yX6_shownOn cX6_shownOn 5 (some .int)) ({ frames := 1, cells := 0, slots := 0, locals := 23 } : Room)).room) s m [.ref (a 99), .int x1, .int x2].toArray below meth c s.heap [] 0 0 (MQ below (vp_Si (fun x => x = res)) [.ref (a 99), .int x1, .int x2].toArray s 0 0 (fun _ => False)) (F0 m 5 ls []) := by
    intro n
    induction n with
    | zero => intro _ _ h; cases h
    | succ n ih5 =>
      intro z5 ρ5 hz5 hK5 ls3 hl3
      obtain ⟨t5, hm, hz5⟩ := bn hz5
      unfold m_X6_shownOn_L5 at hm
      refine lv_iload hx hb dX6_shownOn_5 (lv_at hl3 4 rfl) ?_
      refine lv_aload_n hx hb dX6_shownOn_7 rfl (lv_at hl3 0 rfl) ?_
      refine va_get (D := D) (ci := 6) (v := .int (v 0 1)) (C := RX6) (T := TX6) (N := 40) hx hb hW iX6 hown hK hP0 0 rfl rfl 1 (by decide) (hW _ k_868) (fun _ h => h) rfl dX6_shownOn_8 ?_
      refine lv_icmp_ge (tgt := 42) hx hb dX6_shownOn_11 (by decide) (fun c11 => ?_) (fun c11 => ?_)
      · replace hm := tp hm c11
        cases hm
        cases hz5
        exact hE5 (z5.1, z5.2) hK5 _ (lv_sub hl3 [3] rfl)
      · replace hm := tn hm c11
        refine lv_iload_n hx hb dX6_shownOn_14 rfl (lv_at hl3 3 rfl) ?_
        refine lv_aload_n hx hb dX6_shownOn_15 rfl (lv_at hl3 0 rfl) ?_
        refine lv_iload_n hx hb dX6_shownOn_16 rfl (lv_at hl3 1 rfl) ?_
        refine lv_iload hx hb dX6_shownOn_17 (lv_at hl3 4 rfl) ?_
        obtain ⟨y19, hy19, hm⟩ := bn hm
        refine cVRi (As := [.int x1, .int z5.2]) (rest := [.int z5.1]) X hP0 hl3.1 (c_X6_topOn l D q a v x1 z5.2 y19 hy19) [0, 1, 2, 3, 4, 5, 6, 7, 8, 9, 10, 11, 12, 13, 14, 15, 16, 17] rfl 0 rfl rfl rfl k_1078 mX6_topOn ⟨rfl, rfl⟩ ⟨Nat.le_of_ble_eq_true rfl, Nat.le_of_ble_eq_true rfl⟩ rfl rfl (Nat.le_of_ble_eq_true rfl) dX6_shownOn_19 ⟨Nat.zero_le _, Nat.zero_le _⟩ ?_
        refine lv_iload_n hx hb dX6_shownOn_22 rfl (lv_at hl3 2 rfl) ?_
        refine lv_icmp_ne (tgt := 33) hx hb dX6_shownOn_23 (by decide) (fun c23 => ?_) (fun c23 => ?_)
        · replace hm := tn hm c23
          refine lv_iconst (v := (0 : Int32)) hx hb dX6_shownOn_33 (by decide) ?_
          refine lv_ior hx hb dX6_shownOn_34 ?_
          refine lv_istore_n (lv' := [(3, .int (z5.1 ||| (0 : Int32))), (0, .ref (a 99)), (1, .int x1), (2, .int x2), (4, .int z5.2)]) hx hb dX6_shownOn_35 rfl hl3 (by decide) rfl (fun ls7 hl7 => ?_)
          clear hl3
          refine lv_iinc (v := (z5.2 + (1 : Int32))) (lv' := [(4, .int (z5.2 + (1 : Int32))), (3, .int (z5.1 ||| (0 : Int32))), (0, .ref (a 99)), (1, .int x1), (2, .int x2)]) hx hb dX6_shownOn_36 hl7 (k := 4) rfl rfl (by decide) rfl (fun ls8 hl8 => ?_)
          clear hl7
          refine lv_goto (tgt := 5) hx hb dX6_shownOn_39 (by decide) ?_
          cases hm
          exact ih5 ((z5.1 ||| (0 : Int32)), (z5.2 + (1 : Int32))) ρ5 hz5 hK5 _ (lv_sub hl8 [2, 3, 4, 1, 0] rfl)
        · replace hm := tp hm c23
          refine lv_iconst (v := (1 : Int32)) hx hb dX6_shownOn_26 (by decide) ?_
          refine lv_iload hx hb dX6_shownOn_27 (lv_at hl3 4 rfl) ?_
          refine lv_ishl hx hb dX6_shownOn_29 ?_
          refine lv_goto (tgt := 34) hx hb dX6_shownOn_30 (by decide) ?_
          refine lv_ior hx hb dX6_shownOn_34 ?_
          refine lv_istore_n (lv' := [(3, .int (z5.1 ||| ((1 : Int32) <<< (z5.2 &&& 31)))), (0, .ref (a 99)), (1, .int x1), (2, .int x2), (4, .int z5.2)]) hx hb dX6_shownOn_35 rfl hl3 (by decide) rfl (fun ls5 hl5 => ?_)
          clear hl3
          refine lv_iinc (v := (z5.2 + (1 : Int32))) (lv' := [(4, .int (z5.2 + (1 : Int32))), (3, .int (z5.1 ||| ((1 : Int32) <<< (z5.2 &&& 31)))), (0, .ref (a 99)), (1, .int x1), (2, .int x2)]) hx hb dX6_shownOn_36 hl5 (k := 4) rfl rfl (by decide) rfl (fun ls6 hl6 => ?_)
          clear hl5
          refine lv_goto (tgt := 5) hx hb dX6_shownOn_39 (by decide) ?_
          cases hm
          exact ih5 ((z5.1 ||| ((1 : Int32) <<< (z5.2 &&& 31))), (z5.2 + (1 : Int32))) ρ5 hz5 hK5 _ (lv_sub hl6 [2, 3, 4, 1, 0] rfl)
  exact hL5 n5 ((0 : Int32), (0 : Int32)) r5 hn5 hm _ (lv_sub hl2 [2, 3, 4, 1, 0] rfl)
noncomputable def m_X6_sitter (v : SV) (x1 : Int32) (x2 : Int32) : Option (Int32) :=
  (m_X6_isSitter v x1).bind (fun y2 => (if y2 = 0 then some (-1 : Int32) else (m_X6_in (x2.toInt64) (0 : Int64) (5 : Int64)).bind (fun y14 => (if y14 = 0 then some (-1 : Int32) else (if x2 = (5 : Int32) then (m_X6_shownOn v (0 : Int32) x1).bind (fun y30 => some y30) else ck (inB (((36 : Int32) + ((5 : Int32) * x2)) + x1) 315) (some (v 50 (((((36 : Int32) + ((5 : Int32) * x2)) + x1)).toNatClampNeg))))))))
set_option maxHeartbeats 4000000 in
set_option maxRecDepth 100000 in
theorem c_X6_sitter (l : Launch) (D : va_G) (q : Nat → ClassId) (a : Nat → Nat) (v : SV) (x1 : Int32) (x2 : Int32) (res : Int32) (hm : m_X6_sitter v x1 x2 = some res) : Met l yX6_sitter (mw yX6_sitter cX6_sitter 3 (some .int)) ({ frames := 2, cells := 0, slots := 0, locals := 47 } : Room) (pcR D q (wX6 q a v) [.ref (a 99), .int x1, .int x2]) (vp_Si (fun x => x = res)) 0 0 (fun _ => False) := by
  refine Met.ofW (cc := cX6_sitter) (maxL := 3) (ret := (some .int)) (by decide) rfl ?_
  intro p e s m args below meth c s₁ B hml hv
  obtain ⟨rfl, hP0, hK⟩ := hv
  have hx := B.exec
  have hb := B.bytes
  have hr := B.returns
  have hW := mw_ws (atoms_spec (ws := mw yX6_sitter cX6_sitter 3 (some .int)) B.pre)
  have hown : s.vm.findClass RX6 = some m.cls := findClass_of_methodNamed B.named
  have hlocks := B.notSynchronized
  have X : Cx p s m [.ref (a 99), .int x1, .int x2].toArray c cX6_sitter 3 RX6 D q := ⟨hx, hb, hml, hown, hW, hK⟩
  have hl0 := lv_entry ([.ref (a 99), .int x1, .int x2]) (n := 3) (Nat.le_of_ble_eq_true rfl)
  rw [lg_entry_eq]
  generalize (lg_sl ([.ref (a 99), .int x1, .int x2]) ++ List.replicate (3 - (lg_sl ([.ref (a 99), .int x1, .int x2])).length) Slot.unset).toArray = ls0 at hl0 ⊢
  have hl0 : lv_has ls0 3 [(0, .ref (a 99)), (1, .int x1), (2, .int x2)] := hl0
  unfold m_X6_sitter at hm
  refine lv_aload_n hx hb dX6_sitter_0 rfl (lv_at hl0 0 rfl) ?_
  refine lv_iload_n hx hb dX6_sitter_1 rfl (lv_at hl0 1 rfl) ?_
  obtain ⟨y2, hy2, hm⟩ := bn hm
  refine cVRi (As := [.int x1]) (rest := []) X hP0 hl0.1 (c_X6_isSitter l D q a v x1 y2 hy2) [0, 1, 2, 3, 4, 5, 6, 7, 8, 9, 10, 11, 12, 13, 14, 15, 16, 17] rfl 0 rfl rfl rfl k_1102 mX6_isSitter ⟨rfl, rfl⟩ ⟨Nat.le_of_ble_eq_true rfl, Nat.le_of_ble_eq_true rfl⟩ rfl rfl (Nat.le_of_ble_eq_true rfl) dX6_sitter_2 ⟨Nat.zero_le _, Nat.zero_le _⟩ ?_
  refine lv_if_eq (tgt := 20) hx hb dX6_sitter_5 (by decide) (fun c5 => ?_) (fun c5 => ?_)
  · replace hm := tp hm c5
    refine lv_iconst (v := (-1 : Int32)) hx hb dX6_sitter_20 (by decide) ?_
    exact eRi  X hr hlocks hm dX6_sitter_21
  · replace hm := tn hm c5
    refine lv_iload_n hx hb dX6_sitter_8 rfl (lv_at hl0 2 rfl) ?_
    refine lv_i2l hx hb dX6_sitter_9 rfl ?_
    refine lv_lconst (v := (0 : Int64)) hx hb dX6_sitter_10 (by decide) ?_
    refine lv_ldc2 (v := (5 : Int64)) hx hb hown (hW _ k_1065) dX6_sitter_11 ?_
    obtain ⟨y14, hy14, hm⟩ := bn hm
    refine cSRi (As := [.long (x2.toInt64), .long (0 : Int64), .long (5 : Int64)]) (rest := []) X hP0 hl0.1 (c_X6_in l D q (x2.toInt64) (0 : Int64) (5 : Int64) y14 hy14) [] rfl k_993 mX6_in ⟨rfl, rfl⟩ ⟨Nat.le_of_ble_eq_true rfl, Nat.le_of_ble_eq_true rfl⟩ rfl rfl (Nat.le_of_ble_eq_true rfl) dX6_sitter_14 ⟨Nat.zero_le _, Nat.zero_le _⟩ ?_
    refine lv_if_ne (tgt := 22) hx hb dX6_sitter_17 (by decide) (fun c17 => ?_) (fun c17 => ?_)
    · replace hm := tn hm c17
      refine lv_iload_n hx hb dX6_sitter_22 rfl (lv_at hl0 2 rfl) ?_
      refine lv_iconst (v := (5 : Int32)) hx hb dX6_sitter_23 (by decide) ?_
      refine lv_icmp_ne (tgt := 36) hx hb dX6_sitter_24 (by decide) (fun c24 => ?_) (fun c24 => ?_)
      · replace hm := tn hm c24
        refine lv_aload_n hx hb dX6_sitter_36 rfl (lv_at hl0 0 rfl) ?_
        refine va_get (D := D) (ci := 6) (v := .ref (a 0)) (C := RX6) (T := TX6) (N := 40) hx hb hW iX6 hown hK hP0 0 rfl rfl 0 (by decide) (hW _ k_867) (fun _ h => h) rfl dX6_sitter_37 ?_
        refine lv_bipush (v := (36 : Int32)) hx hb dX6_sitter_40 (by decide) ?_
        refine lv_iconst (v := (5 : Int32)) hx hb dX6_sitter_42 (by decide) ?_
        refine lv_iload_n hx hb dX6_sitter_43 rfl (lv_at hl0 2 rfl) ?_
        refine lv_imul hx hb dX6_sitter_44 ?_
        refine lv_iadd hx hb dX6_sitter_45 ?_
        refine lv_iload_n hx hb dX6_sitter_46 rfl (lv_at hl0 1 rfl) ?_
        refine lv_iadd hx hb dX6_sitter_47 ?_
        obtain ⟨h1, hm⟩ := ckd hm
        refine va_iald (f := (v 50)) hx hb hK hP0 1 0 rfl rfl (inB_vp h1) dX6_sitter_48 ?_
        exact eRi  X hr hlocks hm dX6_sitter_49
      · replace hm := tp hm c24
        refine lv_aload_n hx hb dX6_sitter_27 rfl (lv_at hl0 0 rfl) ?_
        refine lv_iconst (v := (0 : Int32)) hx hb dX6_sitter_28 (by decide) ?_
        refine lv_iload_n hx hb dX6_sitter_29 rfl (lv_at hl0 1 rfl) ?_
        obtain ⟨y30, hy30, hm⟩ := bn hm
        refine cVRi (As := [.int (0 : Int32), .int x1]) (rest := []) X hP0 hl0.1 (c_X6_shownOn l D q a v (0 : Int32) x1 y30 hy30) [0, 1, 2, 3, 4, 5, 6, 7, 8, 9, 10, 11, 12, 13, 14, 15, 16, 17] rfl 0 rfl rfl rfl k_1106 mX6_shownOn ⟨rfl, rfl⟩ ⟨Nat.le_of_ble_eq_true rfl, Nat.le_of_ble_eq_true rfl⟩ rfl rfl (Nat.le_of_ble_eq_true rfl) dX6_sitter_30 ⟨Nat.zero_le _, Nat.zero_le _⟩ ?_
        refine lv_goto (tgt := 49) hx hb dX6_sitter_33 (by decide) ?_
        exact eRi  X hr hlocks hm dX6_sitter_49
    · replace hm := tp hm c17
      refine lv_iconst (v := (-1 : Int32)) hx hb dX6_sitter_20 (by decide) ?_
      exact eRi  X hr hlocks hm dX6_sitter_21
noncomputable def m_X6_finds (v : SV) (x1 : Int32) (x2 : Int32) : Option (Int32) :=
  ck (inB ((41 : Int32) + x1) 315) (ck (inB ((41 : Int32) + x2) 315) (ck (inB ((36 : Int32) + x1) 315) ((m_X6_in (((v 50 ((((41 : Int32) + x1)).toNatClampNeg)) - (v 50 ((((41 : Int32) + x2)).toNatClampNeg))).toInt64) (-1 : Int64) (1 : Int64)).bind (fun y37 => (if (v 50 ((((36 : Int32) + x1)).toNatClampNeg)) = (3 : Int32) then some (0 : Int32) else (if (v 50 ((((36 : Int32) + x1)).toNatClampNeg)) = (2 : Int32) then (if ((v 50 ((((41 : Int32) + x1)).toNatClampNeg)) - (v 50 ((((41 : Int32) + x2)).toNatClampNeg))) = 0 then some (1 : Int32) else some (0 : Int32)) else (if y37 = 0 then (if (v 50 ((((36 : Int32) + x1)).toNatClampNeg)) = (1 : Int32) then ck (inB ((36 : Int32) + x2) 315) ((if (v 50 ((((36 : Int32) + x2)).toNatClampNeg)) = (1 : Int32) then some (1 : Int32) else some (0 : Int32))) else some (0 : Int32)) else some (1 : Int32))))))))
set_option maxHeartbeats 4000000 in
set_option maxRecDepth 100000 in
theorem c_X6_finds (l : Launch) (D : va_G) (q : Nat → ClassId) (a : Nat → Nat) (v : SV) (x1 : Int32) (x2 : Int32) (res : Int32) (hm : m_X6_finds v x1 x2 = some res) : Met l yX6_finds (mw yX6_finds cX6_finds 6 (some .boolean)) ({ frames := 1, cells := 0, slots := 0, locals := 25 } : Room) (pcR D q (wX6 q a v) [.ref (a 99), .int x1, .int x2]) (vp_Si (fun x => x = res)) 0 0 (fun _ => False) := by
  refine Met.ofW (cc := cX6_finds) (maxL := 6) (ret := (some .boolean)) (by decide) rfl ?_
  intro p e s m args below meth c s₁ B hml hv
  obtain ⟨rfl, hP0, hK⟩ := hv
  have hx := B.exec
  have hb := B.bytes
  have hr := B.returns
  have hW := mw_ws (atoms_spec (ws := mw yX6_finds cX6_finds 6 (some .boolean)) B.pre)
  have hown : s.vm.findClass RX6 = some m.cls := findClass_of_methodNamed B.named
  have hlocks := B.notSynchronized
  have X : Cx p s m [.ref (a 99), .int x1, .int x2].toArray c cX6_finds 6 RX6 D q := ⟨hx, hb, hml, hown, hW, hK⟩
  have hl0 := lv_entry ([.ref (a 99), .int x1, .int x2]) (n := 6) (Nat.le_of_ble_eq_true rfl)
  rw [lg_entry_eq]
  generalize (lg_sl ([.ref (a 99), .int x1, .int x2]) ++ List.replicate (6 - (lg_sl ([.ref (a 99), .int x1, .int x2])).length) Slot.unset).toArray = ls0 at hl0 ⊢
  have hl0 : lv_has ls0 6 [(0, .ref (a 99)), (1, .int x1), (2, .int x2)] := hl0
  unfold m_X6_finds at hm
  refine lv_aload_n hx hb dX6_finds_0 rfl (lv_at hl0 0 rfl) ?_
  refine va_get (D := D) (ci := 6) (v := .ref (a 0)) (C := RX6) (T := TX6) (N := 40) hx hb hW iX6 hown hK hP0 0 rfl rfl 0 (by decide) (hW _ k_867) (fun _ h => h) rfl dX6_finds_1 ?_
  refine lv_bipush (v := (41 : Int32)) hx hb dX6_finds_4 (by decide) ?_
  refine lv_iload_n hx hb dX6_finds_6 rfl (lv_at hl0 1 rfl) ?_
  refine lv_iadd hx hb dX6_finds_7 ?_
  obtain ⟨h1, hm⟩ := ckd hm
  refine va_iald (f := (v 50)) hx hb hK hP0 1 0 rfl rfl (inB_vp h1) dX6_finds_8 ?_
  refine lv_aload_n hx hb dX6_finds_9 rfl (lv_at hl0 0 rfl) ?_
  refine va_get (D := D) (ci := 6) (v := .ref (a 0)) (C := RX6) (T := TX6) (N := 40) hx hb hW iX6 hown hK hP0 0 rfl rfl 0 (by decide) (hW _ k_867) (fun _ h => h) rfl dX6_finds_10 ?_
  refine lv_bipush (v := (41 : Int32)) hx hb dX6_finds_13 (by decide) ?_
  refine lv_iload_n hx hb dX6_finds_15 rfl (lv_at hl0 2 rfl) ?_
  refine lv_iadd hx hb dX6_finds_16 ?_
  obtain ⟨h2, hm⟩ := ckd hm
  refine va_iald (f := (v 50)) hx hb hK hP0 1 0 rfl rfl (inB_vp h2) dX6_finds_17 ?_
  refine lv_isub hx hb dX6_finds_18 ?_
  refine lv_istore_n (lv' := [(3, .int ((v 50 ((((41 : Int32) + x1)).toNatClampNeg)) - (v 50 ((((41 : Int32) + x2)).toNatClampNeg)))), (0, .ref (a 99)), (1, .int x1), (2, .int x2)]) hx hb dX6_finds_19 rfl hl0 (by decide) rfl (fun ls3 hl3 => ?_)
  clear hl0
  refine lv_aload_n hx hb dX6_finds_20 rfl (lv_at hl3 1 rfl) ?_
  refine va_get (D := D) (ci := 6) (v := .ref (a 0)) (C := RX6) (T := TX6) (N := 40) hx hb hW iX6 hown hK hP0 0 rfl rfl 0 (by decide) (hW _ k_867) (fun _ h => h) rfl dX6_finds_21 ?_
  refine lv_bipush (v := (36 : Int32)) hx hb dX6_finds_24 (by decide) ?_
  refine lv_iload_n hx hb dX6_finds_26 rfl (lv_at hl3 2 rfl) ?_
  refine lv_iadd hx hb dX6_finds_27 ?_
  obtain ⟨h4, hm⟩ := ckd hm
  refine va_iald (f := (v 50)) hx hb hK hP0 1 0 rfl rfl (inB_vp h4) dX6_finds_28 ?_
  refine lv_istore (lv' := [(4, .int (v 50 ((((36 : Int32) + x1)).toNatClampNeg))), (3, .int ((v 50 ((((41 : Int32) + x1)).toNatClampNeg)) - (v 50 ((((41 : Int32) + x2)).toNatClampNeg)))), (0, .ref (a 99)), (1, .int x1), (2, .int x2)]) hx hb dX6_finds_29 hl3 (by decide) rfl (fun ls5 hl5 => ?_)
  clear hl3
  refine lv_iload_n hx hb dX6_finds_31 rfl (lv_at hl5 1 rfl) ?_
  refine lv_i2l hx hb dX6_finds_32 rfl ?_
  refine lv_ldc2 (v := (-1 : Int64)) hx hb hown (hW _ k_1127) dX6_finds_33 ?_
  refine lv_lconst (v := (1 : Int64)) hx hb dX6_finds_36 (by decide) ?_
  obtain ⟨y37, hy37, hm⟩ := bn hm
  refine cSRi (As := [.long (((v 50 ((((41 : Int32) + x1)).toNatClampNeg)) - (v 50 ((((41 : Int32) + x2)).toNatClampNeg))).toInt64), .long (-1 : Int64), .long (1 : Int64)]) (rest := []) X hP0 hl5.1 (c_X6_in l D q (((v 50 ((((41 : Int32) + x1)).toNatClampNeg)) - (v 50 ((((41 : Int32) + x2)).toNatClampNeg))).toInt64) (-1 : Int64) (1 : Int64) y37 hy37) [] rfl k_993 mX6_in ⟨rfl, rfl⟩ ⟨Nat.le_of_ble_eq_true rfl, Nat.le_of_ble_eq_true rfl⟩ rfl rfl (Nat.le_of_ble_eq_true rfl) dX6_finds_37 ⟨Nat.zero_le _, Nat.zero_le _⟩ ?_
  refine lv_istore (lv' := [(5, .int y37), (4, .int (v 50 ((((36 : Int32) + x1)).toNatClampNeg))), (3, .int ((v 50 ((((41 : Int32) + x1)).toNatClampNeg)) - (v 50 ((((41 : Int32) + x2)).toNatClampNeg)))), (0, .ref (a 99)), (1, .int x1), (2, .int x2)]) hx hb dX6_finds_40 hl5 (by decide) rfl (fun ls6 hl6 => ?_)
  clear hl5
  refine lv_iload hx hb dX6_finds_42 (lv_at hl6 1 rfl) ?_
  refine lv_iconst (v := (3 : Int32)) hx hb dX6_finds_44 (by decide) ?_
  refine lv_icmp_eq (tgt := 89) hx hb dX6_finds_45 (by decide) (fun c45 => ?_) (fun c45 => ?_)
  · replace hm := tp hm c45
    refine lv_iconst (v := (0 : Int32)) hx hb dX6_finds_89 (by decide) ?_
    exact eRz  X hr hlocks rfl hm dX6_finds_90
  · replace hm := tn hm c45
    refine lv_iload hx hb dX6_finds_48 (lv_at hl6 1 rfl) ?_
    refine lv_iconst (v := (2 : Int32)) hx hb dX6_finds_50 (by decide) ?_
    refine lv_icmp_ne (tgt := 61) hx hb dX6_finds_51 (by decide) (fun c51 => ?_) (fun c51 => ?_)
    · replace hm := tn hm c51
      refine lv_iload hx hb dX6_finds_61 (lv_at hl6 0 rfl) ?_
      refine lv_if_ne (tgt := 85) hx hb dX6_finds_63 (by decide) (fun c63 => ?_) (fun c63 => ?_)
      · replace hm := tn hm c63
        refine lv_iconst (v := (1 : Int32)) hx hb dX6_finds_85 (by decide) ?_
        refine lv_goto (tgt := 90) hx hb dX6_finds_86 (by decide) ?_
        exact eRz  X hr hlocks rfl hm dX6_finds_90
      · replace hm := tp hm c63
        refine lv_iload hx hb dX6_finds_66 (lv_at hl6 1 rfl) ?_
        refine lv_iconst (v := (1 : Int32)) hx hb dX6_finds_68 (by decide) ?_
        refine lv_icmp_ne (tgt := 89) hx hb dX6_finds_69 (by decide) (fun c69 => ?_) (fun c69 => ?_)
        · replace hm := tn hm c69
          refine lv_iconst (v := (0 : Int32)) hx hb dX6_finds_89 (by decide) ?_
          exact eRz  X hr hlocks rfl hm dX6_finds_90
        · replace hm := tp hm c69
          refine lv_aload_n hx hb dX6_finds_72 rfl (lv_at hl6 3 rfl) ?_
          refine va_get (D := D) (ci := 6) (v := .ref (a 0)) (C := RX6) (T := TX6) (N := 40) hx hb hW iX6 hown hK hP0 0 rfl rfl 0 (by decide) (hW _ k_867) (fun _ h => h) rfl dX6_finds_73 ?_
          refine lv_bipush (v := (36 : Int32)) hx hb dX6_finds_76 (by decide) ?_
          refine lv_iload_n hx hb dX6_finds_78 rfl (lv_at hl6 5 rfl) ?_
          refine lv_iadd hx hb dX6_finds_79 ?_
          obtain ⟨h7, hm⟩ := ckd hm
          refine va_iald (f := (v 50)) hx hb hK hP0 1 0 rfl rfl (inB_vp h7) dX6_finds_80 ?_
          refine lv_iconst (v := (1 : Int32)) hx hb dX6_finds_81 (by decide) ?_
          refine lv_icmp_ne (tgt := 89) hx hb dX6_finds_82 (by decide) (fun c82 => ?_) (fun c82 => ?_)
          · replace hm := tn hm c82
            refine lv_iconst (v := (0 : Int32)) hx hb dX6_finds_89 (by decide) ?_
            exact eRz  X hr hlocks rfl hm dX6_finds_90
          · replace hm := tp hm c82
            refine lv_iconst (v := (1 : Int32)) hx hb dX6_finds_85 (by decide) ?_
            refine lv_goto (tgt := 90) hx hb dX6_finds_86 (by decide) ?_
            exact eRz  X hr hlocks rfl hm dX6_finds_90
    · replace hm := tp hm c51
      refine lv_iload_n hx hb dX6_finds_54 rfl (lv_at hl6 2 rfl) ?_
      refine lv_if_ne (tgt := 89) hx hb dX6_finds_55 (by decide) (fun c55 => ?_) (fun c55 => ?_)
      · replace hm := tn hm c55
        refine lv_iconst (v := (0 : Int32)) hx hb dX6_finds_89 (by decide) ?_
        exact eRz  X hr hlocks rfl hm dX6_finds_90
      · replace hm := tp hm c55
        refine lv_goto (tgt := 85) hx hb dX6_finds_58 (by decide) ?_
        refine lv_iconst (v := (1 : Int32)) hx hb dX6_finds_85 (by decide) ?_
        refine lv_goto (tgt := 90) hx hb dX6_finds_86 (by decide) ?_
        exact eRz  X hr hlocks rfl hm dX6_finds_90
noncomputable def m_X6_areLike (v : SV) (x1 : Int32) (x2 : Int32) : Option (Int32) :=
  (if x1 = x2 then some (1 : Int32) else (m_X6_finds v x1 x2).bind (fun y8 => (if y8 = 0 then some (0 : Int32) else (m_X6_finds v x2 x1).bind (fun y17 => (if y17 = 0 then some (0 : Int32) else some (1 : Int32))))))
set_option maxHeartbeats 4000000 in
set_option maxRecDepth 100000 in
theorem c_X6_areLike (l : Launch) (D : va_G) (q : Nat → ClassId) (a : Nat → Nat) (v : SV) (x1 : Int32) (x2 : Int32) (res : Int32) (hm : m_X6_areLike v x1 x2 = some res) : Met l yX6_areLike (mw yX6_areLike cX6_areLike 3 (some .boolean)) ({ frames := 2, cells := 0, slots := 0, locals := 50 } : Room) (pcR D q (wX6 q a v) [.ref (a 99), .int x1, .int x2]) (vp_Si (fun x => x = res)) 0 0 (fun _ => False) := by
  refine Met.ofW (cc := cX6_areLike) (maxL := 3) (ret := (some .boolean)) (by decide) rfl ?_
  intro p e s m args below meth c s₁ B hml hv
  obtain ⟨rfl, hP0, hK⟩ := hv
  have hx := B.exec
  have hb := B.bytes
  have hr := B.returns
  have hW := mw_ws (atoms_spec (ws := mw yX6_areLike cX6_areLike 3 (some .boolean)) B.pre)
  have hown : s.vm.findClass RX6 = some m.cls := findClass_of_methodNamed B.named
  have hlocks := B.notSynchronized
  have X : Cx p s m [.ref (a 99), .int x1, .int x2].toArray c cX6_areLike 3 RX6 D q := ⟨hx, hb, hml, hown, hW, hK⟩
  have hl0 := lv_entry ([.ref (a 99), .int x1, .int x2]) (n := 3) (Nat.le_of_ble_eq_true rfl)
  rw [lg_entry_eq]
  generalize (lg_sl ([.ref (a 99), .int x1, .int x2]) ++ List.replicate (3 - (lg_sl ([.ref (a 99), .int x1, .int x2])).length) Slot.unset).toArray = ls0 at hl0 ⊢
  have hl0 : lv_has ls0 3 [(0, .ref (a 99)), (1, .int x1), (2, .int x2)] := hl0
  unfold m_X6_areLike at hm
  refine lv_iload_n hx hb dX6_areLike_0 rfl (lv_at hl0 1 rfl) ?_
  refine lv_iload_n hx hb dX6_areLike_1 rfl (lv_at hl0 2 rfl) ?_
  refine lv_icmp_eq (tgt := 23) hx hb dX6_areLike_2 (by decide) (fun c2 => ?_) (fun c2 => ?_)
  · replace hm := tp hm c2
    refine lv_iconst (v := (1 : Int32)) hx hb dX6_areLike_23 (by decide) ?_
    refine lv_goto (tgt := 28) hx hb dX6_areLike_24 (by decide) ?_
    exact eRz  X hr hlocks rfl hm dX6_areLike_28
  · replace hm := tn hm c2
    refine lv_aload_n hx hb dX6_areLike_5 rfl (lv_at hl0 0 rfl) ?_
    refine lv_iload_n hx hb dX6_areLike_6 rfl (lv_at hl0 1 rfl) ?_
    refine lv_iload_n hx hb dX6_areLike_7 rfl (lv_at hl0 2 rfl) ?_
    obtain ⟨y8, hy8, hm⟩ := bn hm
    refine cVRi (As := [.int x1, .int x2]) (rest := []) X hP0 hl0.1 (c_X6_finds l D q a v x1 x2 y8 hy8) [0, 1, 2, 3, 4, 5, 6, 7, 8, 9, 10, 11, 12, 13, 14, 15, 16, 17] rfl 0 rfl rfl rfl k_1123 mX6_finds ⟨rfl, rfl⟩ ⟨Nat.le_of_ble_eq_true rfl, Nat.le_of_ble_eq_true rfl⟩ rfl rfl (Nat.le_of_ble_eq_true rfl) dX6_areLike_8 ⟨Nat.zero_le _, Nat.zero_le _⟩ ?_
    refine lv_if_eq (tgt := 27) hx hb dX6_areLike_11 (by decide) (fun c11 => ?_) (fun c11 => ?_)
    · replace hm := tp hm c11
      refine lv_iconst (v := (0 : Int32)) hx hb dX6_areLike_27 (by decide) ?_
      exact eRz  X hr hlocks rfl hm dX6_areLike_28
    · replace hm := tn hm c11
      refine lv_aload_n hx hb dX6_areLike_14 rfl (lv_at hl0 0 rfl) ?_
      refine lv_iload_n hx hb dX6_areLike_15 rfl (lv_at hl0 2 rfl) ?_
      refine lv_iload_n hx hb dX6_areLike_16 rfl (lv_at hl0 1 rfl) ?_
      obtain ⟨y17, hy17, hm⟩ := bn hm
      refine cVRi (As := [.int x2, .int x1]) (rest := []) X hP0 hl0.1 (c_X6_finds l D q a v x2 x1 y17 hy17) [0, 1, 2, 3, 4, 5, 6, 7, 8, 9, 10, 11, 12, 13, 14, 15, 16, 17] rfl 0 rfl rfl rfl k_1123 mX6_finds ⟨rfl, rfl⟩ ⟨Nat.le_of_ble_eq_true rfl, Nat.le_of_ble_eq_true rfl⟩ rfl rfl (Nat.le_of_ble_eq_true rfl) dX6_areLike_17 ⟨Nat.zero_le _, Nat.zero_le _⟩ ?_
      refine lv_if_eq (tgt := 27) hx hb dX6_areLike_20 (by decide) (fun c20 => ?_) (fun c20 => ?_)
      · replace hm := tp hm c20
        refine lv_iconst (v := (0 : Int32)) hx hb dX6_areLike_27 (by decide) ?_
        exact eRz  X hr hlocks rfl hm dX6_areLike_28
      · replace hm := tn hm c20
        refine lv_iconst (v := (1 : Int32)) hx hb dX6_areLike_23 (by decide) ?_
        refine lv_goto (tgt := 28) hx hb dX6_areLike_24 (by decide) ?_
        exact eRz  X hr hlocks rfl hm dX6_areLike_28
noncomputable def m_X6_isLikeOn (v : SV) (x1 : Int32) (x2 : Int32) : Option (Int32) :=
  ck (inB ((2 : Int32) * x2) 10) ((m_X6_topOn v x1 (v 3 ((((2 : Int32) * x2)).toNatClampNeg))).bind (fun y10 => ck (inB (((2 : Int32) * x2) + (1 : Int32)) 10) ((m_X6_topOn v x1 (v 3 (((((2 : Int32) * x2) + (1 : Int32))).toNatClampNeg))).bind (fun y26 => (if y10 = (-4 : Int32) then some (0 : Int32) else (if y26 = (-4 : Int32) then some (0 : Int32) else (m_X6_areLike v y10 y26).bind (fun y48 => (if y48 = 0 then some (0 : Int32) else some (1 : Int32)))))))))
set_option maxHeartbeats 4000000 in
set_option maxRecDepth 100000 in
theorem c_X6_isLikeOn (l : Launch) (D : va_G) (q : Nat → ClassId) (a : Nat → Nat) (v : SV) (x1 : Int32) (x2 : Int32) (res : Int32) (hm : m_X6_isLikeOn v x1 x2 = some res) : Met l yX6_isLikeOn (mw yX6_isLikeOn cX6_isLikeOn 5 (some .boolean)) ({ frames := 3, cells := 0, slots := 0, locals := 72 } : Room) (pcR D q (wX6 q a v) [.ref (a 99), .int x1, .int x2]) (vp_Si (fun x => x = res)) 0 0 (fun _ => False) := by
  refine Met.ofW (cc := cX6_isLikeOn) (maxL := 5) (ret := (some .boolean)) (by decide) rfl ?_
  intro p e s m args below meth c s₁ B hml hv
  obtain ⟨rfl, hP0, hK⟩ := hv
  have hx := B.exec
  have hb := B.bytes
  have hr := B.returns
  have hW := mw_ws (atoms_spec (ws := mw yX6_isLikeOn cX6_isLikeOn 5 (some .boolean)) B.pre)
  have hown : s.vm.findClass RX6 = some m.cls := findClass_of_methodNamed B.named
  have hlocks := B.notSynchronized
  have X : Cx p s m [.ref (a 99), .int x1, .int x2].toArray c cX6_isLikeOn 5 RX6 D q := ⟨hx, hb, hml, hown, hW, hK⟩
  have hl0 := lv_entry ([.ref (a 99), .int x1, .int x2]) (n := 5) (Nat.le_of_ble_eq_true rfl)
  rw [lg_entry_eq]
  generalize (lg_sl ([.ref (a 99), .int x1, .int x2]) ++ List.replicate (5 - (lg_sl ([.ref (a 99), .int x1, .int x2])).length) Slot.unset).toArray = ls0 at hl0 ⊢
  have hl0 : lv_has ls0 5 [(0, .ref (a 99)), (1, .int x1), (2, .int x2)] := hl0
  unfold m_X6_isLikeOn at hm
  refine lv_aload_n hx hb dX6_isLikeOn_0 rfl (lv_at hl0 0 rfl) ?_
  refine lv_iload_n hx hb dX6_isLikeOn_1 rfl (lv_at hl0 1 rfl) ?_
  refine lv_aload_n hx hb dX6_isLikeOn_2 rfl (lv_at hl0 0 rfl) ?_
  refine va_get (D := D) (ci := 6) (v := .ref (a 3)) (C := RX6) (T := TX6) (N := 40) hx hb hW iX6 hown hK hP0 0 rfl rfl 3 (by decide) (hW _ k_870) (fun _ h => h) rfl dX6_isLikeOn_3 ?_
  refine lv_iconst (v := (2 : Int32)) hx hb dX6_isLikeOn_6 (by decide) ?_
  refine lv_iload_n hx hb dX6_isLikeOn_7 rfl (lv_at hl0 2 rfl) ?_
  refine lv_imul hx hb dX6_isLikeOn_8 ?_
  obtain ⟨h1, hm⟩ := ckd hm
  refine va_iald (f := (v 3)) hx hb hK hP0 2 0 rfl rfl (inB_vp h1) dX6_isLikeOn_9 ?_
  obtain ⟨y10, hy10, hm⟩ := bn hm
  refine cVRi (As := [.int x1, .int (v 3 ((((2 : Int32) * x2)).toNatClampNeg))]) (rest := []) X hP0 hl0.1 (c_X6_topOn l D q a v x1 (v 3 ((((2 : Int32) * x2)).toNatClampNeg)) y10 hy10) [0, 1, 2, 3, 4, 5, 6, 7, 8, 9, 10, 11, 12, 13, 14, 15, 16, 17] rfl 0 rfl rfl rfl k_1078 mX6_topOn ⟨rfl, rfl⟩ ⟨Nat.le_of_ble_eq_true rfl, Nat.le_of_ble_eq_true rfl⟩ rfl rfl (Nat.le_of_ble_eq_true rfl) dX6_isLikeOn_10 ⟨Nat.zero_le _, Nat.zero_le _⟩ ?_
  refine lv_istore_n (lv' := [(3, .int y10), (0, .ref (a 99)), (1, .int x1), (2, .int x2)]) hx hb dX6_isLikeOn_13 rfl hl0 (by decide) rfl (fun ls2 hl2 => ?_)
  clear hl0
  refine lv_aload_n hx hb dX6_isLikeOn_14 rfl (lv_at hl2 1 rfl) ?_
  refine lv_iload_n hx hb dX6_isLikeOn_15 rfl (lv_at hl2 2 rfl) ?_
  refine lv_aload_n hx hb dX6_isLikeOn_16 rfl (lv_at hl2 1 rfl) ?_
  refine va_get (D := D) (ci := 6) (v := .ref (a 3)) (C := RX6) (T := TX6) (N := 40) hx hb hW iX6 hown hK hP0 0 rfl rfl 3 (by decide) (hW _ k_870) (fun _ h => h) rfl dX6_isLikeOn_17 ?_
  refine lv_iconst (v := (2 : Int32)) hx hb dX6_isLikeOn_20 (by decide) ?_
  refine lv_iload_n hx hb dX6_isLikeOn_21 rfl (lv_at hl2 3 rfl) ?_
  refine lv_imul hx hb dX6_isLikeOn_22 ?_
  refine lv_iconst (v := (1 : Int32)) hx hb dX6_isLikeOn_23 (by decide) ?_
  refine lv_iadd hx hb dX6_isLikeOn_24 ?_
  obtain ⟨h3, hm⟩ := ckd hm
  refine va_iald (f := (v 3)) hx hb hK hP0 2 0 rfl rfl (inB_vp h3) dX6_isLikeOn_25 ?_
  obtain ⟨y26, hy26, hm⟩ := bn hm
  refine cVRi (As := [.int x1, .int (v 3 (((((2 : Int32) * x2) + (1 : Int32))).toNatClampNeg))]) (rest := []) X hP0 hl2.1 (c_X6_topOn l D q a v x1 (v 3 (((((2 : Int32) * x2) + (1 : Int32))).toNatClampNeg)) y26 hy26) [0, 1, 2, 3, 4, 5, 6, 7, 8, 9, 10, 11, 12, 13, 14, 15, 16, 17] rfl 0 rfl rfl rfl k_1078 mX6_topOn ⟨rfl, rfl⟩ ⟨Nat.le_of_ble_eq_true rfl, Nat.le_of_ble_eq_true rfl⟩ rfl rfl (Nat.le_of_ble_eq_true rfl) dX6_isLikeOn_26 ⟨Nat.zero_le _, Nat.zero_le _⟩ ?_
  refine lv_istore (lv' := [(4, .int y26), (3, .int y10), (0, .ref (a 99)), (1, .int x1), (2, .int x2)]) hx hb dX6_isLikeOn_29 hl2 (by decide) rfl (fun ls4 hl4 => ?_)
  clear hl2
  refine lv_iload_n hx hb dX6_isLikeOn_31 rfl (lv_at hl4 1 rfl) ?_
  refine lv_bipush (v := (-4 : Int32)) hx hb dX6_isLikeOn_32 (by decide) ?_
  refine lv_icmp_eq (tgt := 58) hx hb dX6_isLikeOn_34 (by decide) (fun c34 => ?_) (fun c34 => ?_)
  · replace hm := tp hm c34
    refine lv_iconst (v := (0 : Int32)) hx hb dX6_isLikeOn_58 (by decide) ?_
    exact eRz  X hr hlocks rfl hm dX6_isLikeOn_59
  · replace hm := tn hm c34
    refine lv_iload hx hb dX6_isLikeOn_37 (lv_at hl4 0 rfl) ?_
    refine lv_bipush (v := (-4 : Int32)) hx hb dX6_isLikeOn_39 (by decide) ?_
    refine lv_icmp_eq (tgt := 58) hx hb dX6_isLikeOn_41 (by decide) (fun c41 => ?_) (fun c41 => ?_)
    · replace hm := tp hm c41
      refine lv_iconst (v := (0 : Int32)) hx hb dX6_isLikeOn_58 (by decide) ?_
      exact eRz  X hr hlocks rfl hm dX6_isLikeOn_59
    · replace hm := tn hm c41
      refine lv_aload_n hx hb dX6_isLikeOn_44 rfl (lv_at hl4 2 rfl) ?_
      refine lv_iload_n hx hb dX6_isLikeOn_45 rfl (lv_at hl4 1 rfl) ?_
      refine lv_iload hx hb dX6_isLikeOn_46 (lv_at hl4 0 rfl) ?_
      obtain ⟨y48, hy48, hm⟩ := bn hm
      refine cVRi (As := [.int y10, .int y26]) (rest := []) X hP0 hl4.1 (c_X6_areLike l D q a v y10 y26 y48 hy48) [0, 1, 2, 3, 4, 5, 6, 7, 8, 9, 10, 11, 12, 13, 14, 15, 16, 17] rfl 0 rfl rfl rfl k_1119 mX6_areLike ⟨rfl, rfl⟩ ⟨Nat.le_of_ble_eq_true rfl, Nat.le_of_ble_eq_true rfl⟩ rfl rfl (Nat.le_of_ble_eq_true rfl) dX6_isLikeOn_48 ⟨Nat.zero_le _, Nat.zero_le _⟩ ?_
      refine lv_if_eq (tgt := 58) hx hb dX6_isLikeOn_51 (by decide) (fun c51 => ?_) (fun c51 => ?_)
      · replace hm := tp hm c51
        refine lv_iconst (v := (0 : Int32)) hx hb dX6_isLikeOn_58 (by decide) ?_
        exact eRz  X hr hlocks rfl hm dX6_isLikeOn_59
      · replace hm := tn hm c51
        refine lv_iconst (v := (1 : Int32)) hx hb dX6_isLikeOn_54 (by decide) ?_
        refine lv_goto (tgt := 59) hx hb dX6_isLikeOn_55 (by decide) ?_
        exact eRz  X hr hlocks rfl hm dX6_isLikeOn_59
noncomputable def m_X6_likeBondsOn_K4 (z4 : Int32 × Int32) : Option (Int32) :=
  some z4.1
noncomputable def m_X6_likeBondsOn_L4 (v : SV) (x1 : Int32) (z4 : Int32 × Int32) : Option ((Int32 × Int32) ⊕ (Int32 × Int32)) :=
  (if (v 0 4) ≤ z4.2 then some (.inr (z4.1, z4.2)) else (m_X6_isLikeOn v x1 z4.2).bind (fun y16 => (if y16 = 0 then some (.inl ((z4.1 + (0 : Int32)), (z4.2 + (1 : Int32)))) else some (.inl ((z4.1 + (1 : Int32)), (z4.2 + (1 : Int32)))))))
noncomputable def m_X6_likeBondsOn (v : SV) (x1 : Int32) : Option (Int32) :=
  (lpC (m_X6_likeBondsOn_L4 v x1) ((0 : Int32), (0 : Int32))).bind (m_X6_likeBondsOn_K4)
set_option maxHeartbeats 4000000 in
set_option maxRecDepth 100000 in
theorem c_X6_likeBondsOn (l : Launch) (D : va_G) (q : Nat → ClassId) (a : Nat → Nat) (v : SV) (x1 : Int32) (res : Int32) (hm : m_X6_likeBondsOn v x1 = some res) : Met l yX6_likeBondsOn (mw yX6_likeBondsOn cX6_likeBondsOn 4 (some .int)) ({ frames := 4, cells := 0, slots := 0, locals := 96 } : Room) (pcR D q (wX6 q a v) [.ref (a 99), .int x1]) (vp_Si (fun x => x = res)) 0 0 (fun _ => False) := by
  refine Met.ofW (cc := cX6_likeBondsOn) (maxL := 4) (ret := (some .int)) (by decide) rfl ?_
  intro p e s m args below meth c s₁ B hml hv
  obtain ⟨rfl, hP0, hK⟩ := hv
  have hx := B.exec
  have hb := B.bytes
  have hr := B.returns
  have hW := mw_ws (atoms_spec (ws := mw yX6_likeBondsOn cX6_likeBondsOn 4 (some .int)) B.pre)
  have hown : s.vm.findClass RX6 = some m.cls := findClass_of_methodNamed B.named
  have hlocks := B.notSynchronized
  have X : Cx p s m [.ref (a 99), .int x1].toArray c cX6_likeBondsOn 4 RX6 D q := ⟨hx, hb, hml, hown, hW, hK⟩
  have hl0 := lv_entry ([.ref (a 99), .int x1]) (n := 4) (Nat.le_of_ble_eq_true rfl)
  rw [lg_entry_eq]
  generalize (lg_sl ([.ref (a 99), .int x1]) ++ List.replicate (4 - (lg_sl ([.ref (a 99), .int x1])).length) Slot.unset).toArray = ls0 at hl0 ⊢
  have hl0 : lv_has ls0 4 [(0, .ref (a 99)), (1, .int x1)] := hl0
  unfold m_X6_likeBondsOn at hm
  refine lv_iconst (v := (0 : Int32)) hx hb dX6_likeBondsOn_0 (by decide) ?_
  refine lv_istore_n (lv' := [(2, .int (0 : Int32)), (0, .ref (a 99)), (1, .int x1)]) hx hb dX6_likeBondsOn_1 rfl hl0 (by decide) rfl (fun ls1 hl1 => ?_)
  clear hl0
  refine lv_iconst (v := (0 : Int32)) hx hb dX6_likeBondsOn_2 (by decide) ?_
  refine lv_istore_n (lv' := [(3, .int (0 : Int32)), (2, .int (0 : Int32)), (0, .ref (a 99)), (1, .int x1)]) hx hb dX6_likeBondsOn_3 rfl hl1 (by decide) rfl (fun ls2 hl2 => ?_)
  clear hl1
  obtain ⟨r4, hr4, hm⟩ := bn hm
  obtain ⟨n4, hn4⟩ := lpC_ex hr4
  have hE4 : ∀ z4 : Int32 × Int32, m_X6_likeBondsOn_K4 z4 = some res → ∀ ls : Array Slot, lv_has ls 4 [(2, .int z4.1)] → W p l e ((headSpec (mw yX6_likeBondsOn cX6_likeBondsOn 4 (some .int)) ({ frames := 4, cells := 0, slots := 0, locals := 96 } : Room)).room) s m [.ref (a 99), .int x1].toArray below meth c s.heap [] 0 0 (MQ below (vp_Si (fun x => x = res)) [.ref (a 99), .int x1].toArray s 0 0 (fun _ => False)) (F0 m 35 ls []) := by
    intro z4 hm ls4 hl4
    unfold m_X6_likeBondsOn_K4 at hm
    refine lv_iload_n hx hb dX6_likeBondsOn_35 rfl (lv_at hl4 0 rfl) ?_
    exact eRi  X hr hlocks hm dX6_likeBondsOn_36
  have hL4 : ∀ (n : Nat) (z4 : Int32 × Int32) (ρ4 : Int32 × Int32), lpO (m_X6_likeBondsOn_L4 v x1) n z4 = some ρ4 → (m_X6_likeBondsOn_K4) ρ4 = some res → ∀ ls : Array Slot, lv_has ls 4 [(0, .ref (a 99)), (1, .int x1), (2, .int z4.1), (3, .int z4.2)] → W p l e ((headSpec (mw yX6_likeBondsOn cX6_likeBondsOn 4 (some .int)) ({ frames := 4, cells := 0, slots := 0, locals := 96 } : Room)).room) s m [.ref (a 99), .int x1].toArray below meth c s.heap [] 0 0 (MQ below (vp_Si (fun x => x = res)) [.ref (a 99), .int x1].toArray s 0 0 (fun _ => False)) (F0 m 4 ls []) := by
    intro n
    induction n with
    | zero => intro _ _ h; cases h
    | succ n ih4 =>
      intro z4 ρ4 hz4 hK4 ls3 hl3
      obtain ⟨t4, hm, hz4⟩ := bn hz4
      unfold m_X6_likeBondsOn_L4 at hm
      refine lv_iload_n hx hb dX6_likeBondsOn_4 rfl (lv_at hl3 3 rfl) ?_
      refine lv_aload_n hx hb dX6_likeBondsOn_5 rfl (lv_at hl3 0 rfl) ?_
      refine va_get (D := D) (ci := 6) (v := .int (v 0 4)) (C := RX6) (T := TX6) (N := 40) hx hb hW iX6 hown hK hP0 0 rfl rfl 4 (by decide) (hW _ k_871) (fun _ h => h) rfl dX6_likeBondsOn_6 ?_
      refine lv_icmp_ge (tgt := 35) hx hb dX6_likeBondsOn_9 (by decide) (fun c9 => ?_) (fun c9 => ?_)
      · replace hm := tp hm c9
        cases hm
        cases hz4
        exact hE4 (z4.1, z4.2) hK4 _ (lv_sub hl3 [2] rfl)
      · replace hm := tn hm c9
        refine lv_iload_n hx hb dX6_likeBondsOn_12 rfl (lv_at hl3 2 rfl) ?_
        refine lv_aload_n hx hb dX6_likeBondsOn_13 rfl (lv_at hl3 0 rfl) ?_
        refine lv_iload_n hx hb dX6_likeBondsOn_14 rfl (lv_at hl3 1 rfl) ?_
        refine lv_iload_n hx hb dX6_likeBondsOn_15 rfl (lv_at hl3 3 rfl) ?_
        obtain ⟨y16, hy16, hm⟩ := bn hm
        refine cVRi (As := [.int x1, .int z4.2]) (rest := [.int z4.1]) X hP0 hl3.1 (c_X6_isLikeOn l D q a v x1 z4.2 y16 hy16) [0, 1, 2, 3, 4, 5, 6, 7, 8, 9, 10, 11, 12, 13, 14, 15, 16, 17] rfl 0 rfl rfl rfl k_1115 mX6_isLikeOn ⟨rfl, rfl⟩ ⟨Nat.le_of_ble_eq_true rfl, Nat.le_of_ble_eq_true rfl⟩ rfl rfl (Nat.le_of_ble_eq_true rfl) dX6_likeBondsOn_16 ⟨Nat.zero_le _, Nat.zero_le _⟩ ?_
        refine lv_if_eq (tgt := 26) hx hb dX6_likeBondsOn_19 (by decide) (fun c19 => ?_) (fun c19 => ?_)
        · replace hm := tp hm c19
          refine lv_iconst (v := (0 : Int32)) hx hb dX6_likeBondsOn_26 (by decide) ?_
          refine lv_iadd hx hb dX6_likeBondsOn_27 ?_
          refine lv_istore_n (lv' := [(2, .int (z4.1 + (0 : Int32))), (0, .ref (a 99)), (1, .int x1), (3, .int z4.2)]) hx hb dX6_likeBondsOn_28 rfl hl3 (by decide) rfl (fun ls5 hl5 => ?_)
          clear hl3
          refine lv_iinc (v := (z4.2 + (1 : Int32))) (lv' := [(3, .int (z4.2 + (1 : Int32))), (2, .int (z4.1 + (0 : Int32))), (0, .ref (a 99)), (1, .int x1)]) hx hb dX6_likeBondsOn_29 hl5 (k := 3) rfl rfl (by decide) rfl (fun ls6 hl6 => ?_)
          clear hl5
          refine lv_goto (tgt := 4) hx hb dX6_likeBondsOn_32 (by decide) ?_
          cases hm
          exact ih4 ((z4.1 + (0 : Int32)), (z4.2 + (1 : Int32))) ρ4 hz4 hK4 _ (lv_sub hl6 [2, 3, 1, 0] rfl)
        · replace hm := tn hm c19
          refine lv_iconst (v := (1 : Int32)) hx hb dX6_likeBondsOn_22 (by decide) ?_
          refine lv_goto (tgt := 27) hx hb dX6_likeBondsOn_23 (by decide) ?_
          refine lv_iadd hx hb dX6_likeBondsOn_27 ?_
          refine lv_istore_n (lv' := [(2, .int (z4.1 + (1 : Int32))), (0, .ref (a 99)), (1, .int x1), (3, .int z4.2)]) hx hb dX6_likeBondsOn_28 rfl hl3 (by decide) rfl (fun ls7 hl7 => ?_)
          clear hl3
          refine lv_iinc (v := (z4.2 + (1 : Int32))) (lv' := [(3, .int (z4.2 + (1 : Int32))), (2, .int (z4.1 + (1 : Int32))), (0, .ref (a 99)), (1, .int x1)]) hx hb dX6_likeBondsOn_29 hl7 (k := 3) rfl rfl (by decide) rfl (fun ls8 hl8 => ?_)
          clear hl7
          refine lv_goto (tgt := 4) hx hb dX6_likeBondsOn_32 (by decide) ?_
          cases hm
          exact ih4 ((z4.1 + (1 : Int32)), (z4.2 + (1 : Int32))) ρ4 hz4 hK4 _ (lv_sub hl8 [2, 3, 1, 0] rfl)
  exact hL4 n4 ((0 : Int32), (0 : Int32)) r4 hn4 hm _ (lv_sub hl2 [2, 3, 1, 0] rfl)
noncomputable def m_X6_bond (v : SV) (x1 : Int32) (x2 : Int32) : Option (Int32) :=
  (m_X6_in (x1.toInt64) (0 : Int64) (((v 0 4) - (1 : Int32)).toInt64)).bind (fun y10 => (if y10 = 0 then some (-1 : Int32) else (m_X6_in (x2.toInt64) (0 : Int64) (2 : Int64)).bind (fun y22 => (if y22 = 0 then some (-1 : Int32) else (if (2 : Int32) ≤ x2 then (m_X6_isLikeOn v (0 : Int32) x1).bind (fun y51 => (if y51 = 0 then some (0 : Int32) else some (1 : Int32))) else ck (inB (((2 : Int32) * x1) + x2) 10) (some (v 3 (((((2 : Int32) * x1) + x2)).toNatClampNeg))))))))
set_option maxHeartbeats 4000000 in
set_option maxRecDepth 100000 in
theorem c_X6_bond (l : Launch) (D : va_G) (q : Nat → ClassId) (a : Nat → Nat) (v : SV) (x1 : Int32) (x2 : Int32) (res : Int32) (hm : m_X6_bond v x1 x2 = some res) : Met l yX6_bond (mw yX6_bond cX6_bond 3 (some .int)) ({ frames := 4, cells := 0, slots := 0, locals := 96 } : Room) (pcR D q (wX6 q a v) [.ref (a 99), .int x1, .int x2]) (vp_Si (fun x => x = res)) 0 0 (fun _ => False) := by
  refine Met.ofW (cc := cX6_bond) (maxL := 3) (ret := (some .int)) (by decide) rfl ?_
  intro p e s m args below meth c s₁ B hml hv
  obtain ⟨rfl, hP0, hK⟩ := hv
  have hx := B.exec
  have hb := B.bytes
  have hr := B.returns
  have hW := mw_ws (atoms_spec (ws := mw yX6_bond cX6_bond 3 (some .int)) B.pre)
  have hown : s.vm.findClass RX6 = some m.cls := findClass_of_methodNamed B.named
  have hlocks := B.notSynchronized
  have X : Cx p s m [.ref (a 99), .int x1, .int x2].toArray c cX6_bond 3 RX6 D q := ⟨hx, hb, hml, hown, hW, hK⟩
  have hl0 := lv_entry ([.ref (a 99), .int x1, .int x2]) (n := 3) (Nat.le_of_ble_eq_true rfl)
  rw [lg_entry_eq]
  generalize (lg_sl ([.ref (a 99), .int x1, .int x2]) ++ List.replicate (3 - (lg_sl ([.ref (a 99), .int x1, .int x2])).length) Slot.unset).toArray = ls0 at hl0 ⊢
  have hl0 : lv_has ls0 3 [(0, .ref (a 99)), (1, .int x1), (2, .int x2)] := hl0
  unfold m_X6_bond at hm
  refine lv_iload_n hx hb dX6_bond_0 rfl (lv_at hl0 1 rfl) ?_
  refine lv_i2l hx hb dX6_bond_1 rfl ?_
  refine lv_lconst (v := (0 : Int64)) hx hb dX6_bond_2 (by decide) ?_
  refine lv_aload_n hx hb dX6_bond_3 rfl (lv_at hl0 0 rfl) ?_
  refine va_get (D := D) (ci := 6) (v := .int (v 0 4)) (C := RX6) (T := TX6) (N := 40) hx hb hW iX6 hown hK hP0 0 rfl rfl 4 (by decide) (hW _ k_871) (fun _ h => h) rfl dX6_bond_4 ?_
  refine lv_iconst (v := (1 : Int32)) hx hb dX6_bond_7 (by decide) ?_
  refine lv_isub hx hb dX6_bond_8 ?_
  refine lv_i2l hx hb dX6_bond_9 rfl ?_
  obtain ⟨y10, hy10, hm⟩ := bn hm
  refine cSRi (As := [.long (x1.toInt64), .long (0 : Int64), .long (((v 0 4) - (1 : Int32)).toInt64)]) (rest := []) X hP0 hl0.1 (c_X6_in l D q (x1.toInt64) (0 : Int64) (((v 0 4) - (1 : Int32)).toInt64) y10 hy10) [] rfl k_993 mX6_in ⟨rfl, rfl⟩ ⟨Nat.le_of_ble_eq_true rfl, Nat.le_of_ble_eq_true rfl⟩ rfl rfl (Nat.le_of_ble_eq_true rfl) dX6_bond_10 ⟨Nat.zero_le _, Nat.zero_le _⟩ ?_
  refine lv_if_eq (tgt := 28) hx hb dX6_bond_13 (by decide) (fun c13 => ?_) (fun c13 => ?_)
  · replace hm := tp hm c13
    refine lv_iconst (v := (-1 : Int32)) hx hb dX6_bond_28 (by decide) ?_
    exact eRi  X hr hlocks hm dX6_bond_29
  · replace hm := tn hm c13
    refine lv_iload_n hx hb dX6_bond_16 rfl (lv_at hl0 2 rfl) ?_
    refine lv_i2l hx hb dX6_bond_17 rfl ?_
    refine lv_lconst (v := (0 : Int64)) hx hb dX6_bond_18 (by decide) ?_
    refine lv_ldc2 (v := (2 : Int64)) hx hb hown (hW _ k_1114) dX6_bond_19 ?_
    obtain ⟨y22, hy22, hm⟩ := bn hm
    refine cSRi (As := [.long (x2.toInt64), .long (0 : Int64), .long (2 : Int64)]) (rest := []) X hP0 hl0.1 (c_X6_in l D q (x2.toInt64) (0 : Int64) (2 : Int64) y22 hy22) [] rfl k_993 mX6_in ⟨rfl, rfl⟩ ⟨Nat.le_of_ble_eq_true rfl, Nat.le_of_ble_eq_true rfl⟩ rfl rfl (Nat.le_of_ble_eq_true rfl) dX6_bond_22 ⟨Nat.zero_le _, Nat.zero_le _⟩ ?_
    refine lv_if_ne (tgt := 30) hx hb dX6_bond_25 (by decide) (fun c25 => ?_) (fun c25 => ?_)
    · replace hm := tn hm c25
      refine lv_iload_n hx hb dX6_bond_30 rfl (lv_at hl0 2 rfl) ?_
      refine lv_iconst (v := (2 : Int32)) hx hb dX6_bond_31 (by decide) ?_
      refine lv_icmp_ge (tgt := 48) hx hb dX6_bond_32 (by decide) (fun c32 => ?_) (fun c32 => ?_)
      · replace hm := tp hm c32
        refine lv_aload_n hx hb dX6_bond_48 rfl (lv_at hl0 0 rfl) ?_
        refine lv_iconst (v := (0 : Int32)) hx hb dX6_bond_49 (by decide) ?_
        refine lv_iload_n hx hb dX6_bond_50 rfl (lv_at hl0 1 rfl) ?_
        obtain ⟨y51, hy51, hm⟩ := bn hm
        refine cVRi (As := [.int (0 : Int32), .int x1]) (rest := []) X hP0 hl0.1 (c_X6_isLikeOn l D q a v (0 : Int32) x1 y51 hy51) [0, 1, 2, 3, 4, 5, 6, 7, 8, 9, 10, 11, 12, 13, 14, 15, 16, 17] rfl 0 rfl rfl rfl k_1115 mX6_isLikeOn ⟨rfl, rfl⟩ ⟨Nat.le_of_ble_eq_true rfl, Nat.le_of_ble_eq_true rfl⟩ rfl rfl (Nat.le_of_ble_eq_true rfl) dX6_bond_51 ⟨Nat.zero_le _, Nat.zero_le _⟩ ?_
        refine lv_if_eq (tgt := 61) hx hb dX6_bond_54 (by decide) (fun c54 => ?_) (fun c54 => ?_)
        · replace hm := tp hm c54
          refine lv_iconst (v := (0 : Int32)) hx hb dX6_bond_61 (by decide) ?_
          exact eRi  X hr hlocks hm dX6_bond_62
        · replace hm := tn hm c54
          refine lv_iconst (v := (1 : Int32)) hx hb dX6_bond_57 (by decide) ?_
          refine lv_goto (tgt := 62) hx hb dX6_bond_58 (by decide) ?_
          exact eRi  X hr hlocks hm dX6_bond_62
      · replace hm := tn hm c32
        refine lv_aload_n hx hb dX6_bond_35 rfl (lv_at hl0 0 rfl) ?_
        refine va_get (D := D) (ci := 6) (v := .ref (a 3)) (C := RX6) (T := TX6) (N := 40) hx hb hW iX6 hown hK hP0 0 rfl rfl 3 (by decide) (hW _ k_870) (fun _ h => h) rfl dX6_bond_36 ?_
        refine lv_iconst (v := (2 : Int32)) hx hb dX6_bond_39 (by decide) ?_
        refine lv_iload_n hx hb dX6_bond_40 rfl (lv_at hl0 1 rfl) ?_
        refine lv_imul hx hb dX6_bond_41 ?_
        refine lv_iload_n hx hb dX6_bond_42 rfl (lv_at hl0 2 rfl) ?_
        refine lv_iadd hx hb dX6_bond_43 ?_
        obtain ⟨h1, hm⟩ := ckd hm
        refine va_iald (f := (v 3)) hx hb hK hP0 2 0 rfl rfl (inB_vp h1) dX6_bond_44 ?_
        refine lv_goto (tgt := 62) hx hb dX6_bond_45 (by decide) ?_
        exact eRi  X hr hlocks hm dX6_bond_62
    · replace hm := tp hm c25
      refine lv_iconst (v := (-1 : Int32)) hx hb dX6_bond_28 (by decide) ?_
      exact eRi  X hr hlocks hm dX6_bond_29
noncomputable def m_X6_forger (v : SV) (x1 : Int32) : Option (Int32) :=
  (m_X6_in (x1.toInt64) (0 : Int64) (((v 0 6) - (1 : Int32)).toInt64)).bind (fun y10 => (if y10 = 0 then some (-1 : Int32) else ck (inB x1 4) (some (v 5 ((x1).toNatClampNeg)))))
set_option maxHeartbeats 4000000 in
set_option maxRecDepth 100000 in
theorem c_X6_forger (l : Launch) (D : va_G) (q : Nat → ClassId) (a : Nat → Nat) (v : SV) (x1 : Int32) (res : Int32) (hm : m_X6_forger v x1 = some res) : Met l yX6_forger (mw yX6_forger cX6_forger 2 (some .int)) ({ frames := 1, cells := 0, slots := 0, locals := 25 } : Room) (pcR D q (wX6 q a v) [.ref (a 99), .int x1]) (vp_Si (fun x => x = res)) 0 0 (fun _ => False) := by
  refine Met.ofW (cc := cX6_forger) (maxL := 2) (ret := (some .int)) (by decide) rfl ?_
  intro p e s m args below meth c s₁ B hml hv
  obtain ⟨rfl, hP0, hK⟩ := hv
  have hx := B.exec
  have hb := B.bytes
  have hr := B.returns
  have hW := mw_ws (atoms_spec (ws := mw yX6_forger cX6_forger 2 (some .int)) B.pre)
  have hown : s.vm.findClass RX6 = some m.cls := findClass_of_methodNamed B.named
  have hlocks := B.notSynchronized
  have X : Cx p s m [.ref (a 99), .int x1].toArray c cX6_forger 2 RX6 D q := ⟨hx, hb, hml, hown, hW, hK⟩
  have hl0 := lv_entry ([.ref (a 99), .int x1]) (n := 2) (Nat.le_of_ble_eq_true rfl)
  rw [lg_entry_eq]
  generalize (lg_sl ([.ref (a 99), .int x1]) ++ List.replicate (2 - (lg_sl ([.ref (a 99), .int x1])).length) Slot.unset).toArray = ls0 at hl0 ⊢
  have hl0 : lv_has ls0 2 [(0, .ref (a 99)), (1, .int x1)] := hl0
  unfold m_X6_forger at hm
  refine lv_iload_n hx hb dX6_forger_0 rfl (lv_at hl0 1 rfl) ?_
  refine lv_i2l hx hb dX6_forger_1 rfl ?_
  refine lv_lconst (v := (0 : Int64)) hx hb dX6_forger_2 (by decide) ?_
  refine lv_aload_n hx hb dX6_forger_3 rfl (lv_at hl0 0 rfl) ?_
  refine va_get (D := D) (ci := 6) (v := .int (v 0 6)) (C := RX6) (T := TX6) (N := 40) hx hb hW iX6 hown hK hP0 0 rfl rfl 6 (by decide) (hW _ k_873) (fun _ h => h) rfl dX6_forger_4 ?_
  refine lv_iconst (v := (1 : Int32)) hx hb dX6_forger_7 (by decide) ?_
  refine lv_isub hx hb dX6_forger_8 ?_
  refine lv_i2l hx hb dX6_forger_9 rfl ?_
  obtain ⟨y10, hy10, hm⟩ := bn hm
  refine cSRi (As := [.long (x1.toInt64), .long (0 : Int64), .long (((v 0 6) - (1 : Int32)).toInt64)]) (rest := []) X hP0 hl0.1 (c_X6_in l D q (x1.toInt64) (0 : Int64) (((v 0 6) - (1 : Int32)).toInt64) y10 hy10) [] rfl k_993 mX6_in ⟨rfl, rfl⟩ ⟨Nat.le_of_ble_eq_true rfl, Nat.le_of_ble_eq_true rfl⟩ rfl rfl (Nat.le_of_ble_eq_true rfl) dX6_forger_10 ⟨Nat.zero_le _, Nat.zero_le _⟩ ?_
  refine lv_if_eq (tgt := 25) hx hb dX6_forger_13 (by decide) (fun c13 => ?_) (fun c13 => ?_)
  · replace hm := tp hm c13
    refine lv_iconst (v := (-1 : Int32)) hx hb dX6_forger_25 (by decide) ?_
    exact eRi  X hr hlocks hm dX6_forger_26
  · replace hm := tn hm c13
    refine lv_aload_n hx hb dX6_forger_16 rfl (lv_at hl0 0 rfl) ?_
    refine va_get (D := D) (ci := 6) (v := .ref (a 5)) (C := RX6) (T := TX6) (N := 40) hx hb hW iX6 hown hK hP0 0 rfl rfl 5 (by decide) (hW _ k_872) (fun _ h => h) rfl dX6_forger_17 ?_
    refine lv_iload_n hx hb dX6_forger_20 rfl (lv_at hl0 1 rfl) ?_
    obtain ⟨h1, hm⟩ := ckd hm
    refine va_iald (f := (v 5)) hx hb hK hP0 3 0 rfl rfl (inB_vp h1) dX6_forger_21 ?_
    refine lv_goto (tgt := 26) hx hb dX6_forger_22 (by decide) ?_
    exact eRi  X hr hlocks hm dX6_forger_26
noncomputable def m_X6_paintsOn_J77 (x1 : Int32) (x2 : Int32) (x3 : Int32) (z77 : SV) : Option (SV) :=
  ck (inB ((x1 + (6 : Int32)) + x2) 315) (ck (inB (((x1 + (12 : Int32)) + ((4 : Int32) * x2)) + (z77 50 ((((x1 + (6 : Int32)) + x2)).toNatClampNeg))) 315) (lett (up2 z77 50 (((((x1 + (12 : Int32)) + ((4 : Int32) * x2)) + (z77 50 ((((x1 + (6 : Int32)) + x2)).toNatClampNeg)))).toNatClampNeg) x3) (fun v7_ => ck (inB ((x1 + (6 : Int32)) + x2) 315) (ck (inB ((x1 + (6 : Int32)) + x2) 315) (lett (up2 v7_ 50 ((((x1 + (6 : Int32)) + x2)).toNatClampNeg) ((v7_ 50 ((((x1 + (6 : Int32)) + x2)).toNatClampNeg)) + (1 : Int32))) (fun v10_ => some v10_))))))
noncomputable def m_X6_paintsOn_K28 (x1 : Int32) (x2 : Int32) (x3 : Int32) (z28 : Int32 × SV) : Option (SV) :=
  ck (inB ((x1 + (6 : Int32)) + x2) 315) (ck (inB ((x1 + (6 : Int32)) + x2) 315) (lett (up2 z28.2 50 ((((x1 + (6 : Int32)) + x2)).toNatClampNeg) ((z28.2 50 ((((x1 + (6 : Int32)) + x2)).toNatClampNeg)) - (1 : Int32))) (fun v18_ => m_X6_paintsOn_J77 x1 x2 x3 v18_)))
noncomputable def m_X6_paintsOn_L28 (x1 : Int32) (x2 : Int32) (z28 : Int32 × SV) : Option ((Int32 × SV) ⊕ (Int32 × SV)) :=
  (if (4 : Int32) ≤ z28.1 then some (.inr (z28.1, z28.2)) else ck (inB (((x1 + (12 : Int32)) + ((4 : Int32) * x2)) + z28.1) 315) (ck (inB ((((x1 + (12 : Int32)) + ((4 : Int32) * x2)) + z28.1) - (1 : Int32)) 315) (lett (up2 z28.2 50 ((((((x1 + (12 : Int32)) + ((4 : Int32) * x2)) + z28.1) - (1 : Int32))).toNatClampNeg) (z28.2 50 (((((x1 + (12 : Int32)) + ((4 : Int32) * x2)) + z28.1)).toNatClampNeg))) (fun v21_ => some (.inl ((z28.1 + (1 : Int32)), v21_))))))
noncomputable def m_X6_paintsOn (v : SV) (x1 : Int32) (x2 : Int32) (x3 : Int32) : Option (SV) :=
  ck (inB ((x1 + (6 : Int32)) + x2) 315) ((if (v 50 ((((x1 + (6 : Int32)) + x2)).toNatClampNeg)) = (4 : Int32) then (lpC (m_X6_paintsOn_L28 x1 x2) ((1 : Int32), v)).bind (m_X6_paintsOn_K28 x1 x2 x3) else m_X6_paintsOn_J77 x1 x2 x3 v))
set_option maxHeartbeats 4000000 in
set_option maxRecDepth 100000 in
theorem c_X6_paintsOn (l : Launch) (D : va_G) (q : Nat → ClassId) (sz : Nat) (a : Nat → Nat) (v : SV) (x1 : Int32) (x2 : Int32) (x3 : Int32) (res : SV) (hm : m_X6_paintsOn v x1 x2 x3 = some res) : Met l yX6_paintsOn (mw yX6_paintsOn cX6_paintsOn 6 none) ({ frames := 0, cells := 0, slots := 0, locals := 0 } : Room) (pcW D q (wX6 q a v) sz [.ref (a 99), .int x1, .int x2, .int x3]) (va_Qv (fun w => w = res) (bW D q (wX6 q a v) sz (fun (uu : SV) => wX6 q a uu)) (va_A (wX6 q a v) sz)) 0 0 (va_A (wX6 q a v) sz) := by
  refine Met.ofW (cc := cX6_paintsOn) (maxL := 6) (ret := none) (by decide) rfl ?_
  intro p e s m args below meth c s₁ B hml hv
  obtain ⟨rfl, hsz, hP0, hK, hD0⟩ := hv
  have hx := B.exec
  have hb := B.bytes
  have hr := B.returns
  have hW := mw_ws (atoms_spec (ws := mw yX6_paintsOn cX6_paintsOn 6 none) B.pre)
  have hown : s.vm.findClass RX6 = some m.cls := findClass_of_methodNamed B.named
  have hlocks := B.notSynchronized
  have X : Cx p s m [.ref (a 99), .int x1, .int x2, .int x3].toArray c cX6_paintsOn 6 RX6 D q := ⟨hx, hb, hml, hown, hW, hK⟩
  subst hsz
  replace hD0 := hD0.self (sz := s.heap.size)
  have hS0 : va_S (va_A (wX6 q a v) s.heap.size) s.heap s.heap [] := va_S.rf
  have hl0 := lv_entry ([.ref (a 99), .int x1, .int x2, .int x3]) (n := 6) (Nat.le_of_ble_eq_true rfl)
  rw [lg_entry_eq]
  generalize (lg_sl ([.ref (a 99), .int x1, .int x2, .int x3]) ++ List.replicate (6 - (lg_sl ([.ref (a 99), .int x1, .int x2, .int x3])).length) Slot.unset).toArray = ls0 at hl0 ⊢
  have hl0 : lv_has ls0 6 [(0, .ref (a 99)), (1, .int x1), (2, .int x2), (3, .int x3)] := hl0
  unfold m_X6_paintsOn at hm
  refine lv_iload_n hx hb dX6_paintsOn_0 rfl (lv_at hl0 1 rfl) ?_
  refine lv_bipush (v := (12 : Int32)) hx hb dX6_paintsOn_1 (by decide) ?_
  refine lv_iadd hx hb dX6_paintsOn_3 ?_
  refine lv_iconst (v := (4 : Int32)) hx hb dX6_paintsOn_4 (by decide) ?_
  refine lv_iload_n hx hb dX6_paintsOn_5 rfl (lv_at hl0 2 rfl) ?_
  refine lv_imul hx hb dX6_paintsOn_6 ?_
  refine lv_iadd hx hb dX6_paintsOn_7 ?_
  refine lv_istore (lv' := [(4, .int ((x1 + (12 : Int32)) + ((4 : Int32) * x2))), (0, .ref (a 99)), (1, .int x1), (2, .int x2), (3, .int x3)]) hx hb dX6_paintsOn_8 hl0 (by decide) rfl (fun ls1 hl1 => ?_)
  clear hl0
  refine lv_aload_n hx hb dX6_paintsOn_10 rfl (lv_at hl1 1 rfl) ?_
  refine va_get (D := D) (ci := 6) (v := .ref (a 0)) (C := RX6) (T := TX6) (N := 40) hx hb hW iX6 hown hK hP0 0 rfl rfl 0 (by decide) (hW _ k_867) (fun _ h => h) rfl dX6_paintsOn_11 ?_
  refine lv_iload_n hx hb dX6_paintsOn_14 rfl (lv_at hl1 2 rfl) ?_
  refine lv_bipush (v := (6 : Int32)) hx hb dX6_paintsOn_15 (by decide) ?_
  refine lv_iadd hx hb dX6_paintsOn_17 ?_
  refine lv_iload_n hx hb dX6_paintsOn_18 rfl (lv_at hl1 3 rfl) ?_
  refine lv_iadd hx hb dX6_paintsOn_19 ?_
  obtain ⟨h2, hm⟩ := ckd hm
  refine va_iald (f := (v 50)) hx hb hK hP0 1 0 rfl rfl (inB_vp h2) dX6_paintsOn_20 ?_
  refine lv_iconst (v := (4 : Int32)) hx hb dX6_paintsOn_21 (by decide) ?_
  have hJ77 : ∀ z77 : SV, m_X6_paintsOn_J77 x1 x2 x3 z77 = some res → ∀ (H : Heap) (locs : List Loc), va_P D cls (wX6 q a z77) H → va_D (va_A (wX6 q a v) s.heap.size) (wX6 q a z77) → va_S (va_A (wX6 q a v) s.heap.size) s.heap H locs → ∀ ls : Array Slot, lv_has ls 6 [(4, .int ((x1 + (12 : Int32)) + ((4 : Int32) * x2))), (0, .ref (a 99)), (1, .int x1), (2, .int x2), (3, .int x3)] → W p l e ((headSpec (mw yX6_paintsOn cX6_paintsOn 6 none) ({ frames := 0, cells := 0, slots := 0, locals := 0 } : Room)).room) s m [.ref (a 99), .int x1, .int x2, .int x3].toArray below meth c H locs 0 0 (MQ below (va_Qv (fun w => w = res) (bW D q (wX6 q a v) s.heap.size (fun (uu : SV) => wX6 q a uu)) (va_A (wX6 q a v) s.heap.size)) [.ref (a 99), .int x1, .int x2, .int x3].toArray s 0 0 (va_A (wX6 q a v) s.heap.size)) (F0 m 77 ls []) := by
    intro z77 hm H4 locs4 hP4 hD4 hS4 ls3 hl3
    unfold m_X6_paintsOn_J77 at hm
    refine lv_aload_n hx hb dX6_paintsOn_77 rfl (lv_at hl3 1 rfl) ?_
    refine va_get (D := D) (ci := 6) (v := .ref (a 0)) (C := RX6) (T := TX6) (N := 40) hx hb hW iX6 hown hK hP4 0 rfl rfl 0 (by decide) (hW _ k_867) (fun _ h => h) rfl dX6_paintsOn_78 ?_
    refine lv_iload hx hb dX6_paintsOn_81 (lv_at hl3 0 rfl) ?_
    refine lv_aload_n hx hb dX6_paintsOn_83 rfl (lv_at hl3 1 rfl) ?_
    refine va_get (D := D) (ci := 6) (v := .ref (a 0)) (C := RX6) (T := TX6) (N := 40) hx hb hW iX6 hown hK hP4 0 rfl rfl 0 (by decide) (hW _ k_867) (fun _ h => h) rfl dX6_paintsOn_84 ?_
    refine lv_iload_n hx hb dX6_paintsOn_87 rfl (lv_at hl3 2 rfl) ?_
    refine lv_bipush (v := (6 : Int32)) hx hb dX6_paintsOn_88 (by decide) ?_
    refine lv_iadd hx hb dX6_paintsOn_90 ?_
    refine lv_iload_n hx hb dX6_paintsOn_91 rfl (lv_at hl3 3 rfl) ?_
    refine lv_iadd hx hb dX6_paintsOn_92 ?_
    obtain ⟨h5, hm⟩ := ckd hm
    refine va_iald (f := (z77 50)) hx hb hK hP4 1 0 rfl rfl (inB_vp h5) dX6_paintsOn_93 ?_
    refine lv_iadd hx hb dX6_paintsOn_94 ?_
    refine lv_iload_n hx hb dX6_paintsOn_95 rfl (lv_at hl3 4 rfl) ?_
    obtain ⟨h6, hm⟩ := ckd hm
    refine va_iast (f := (z77 50)) hx hb hK hP4 hD4 hS4 1 0 rfl rfl (inB_vp h6) dX6_paintsOn_96 (fun H7 locs7 hP hD hS7 => ?_)
    obtain ⟨v7_, e7, hm⟩ := ltd hm
    have hP7 : va_P D cls (wX6 q a v7_) H7 := by rw [e7]; exact hP
    have hD7 : va_D (va_A (wX6 q a v) s.heap.size) (wX6 q a v7_) := by rw [e7]; exact hD
    clear hP hD hP4 hD4 hS4
    refine lv_aload_n hx hb dX6_paintsOn_97 rfl (lv_at hl3 1 rfl) ?_
    refine va_get (D := D) (ci := 6) (v := .ref (a 0)) (C := RX6) (T := TX6) (N := 40) hx hb hW iX6 hown hK hP7 0 rfl rfl 0 (by decide) (hW _ k_867) (fun _ h => h) rfl dX6_paintsOn_98 ?_
    refine lv_iload_n hx hb dX6_paintsOn_101 rfl (lv_at hl3 2 rfl) ?_
    refine lv_bipush (v := (6 : Int32)) hx hb dX6_paintsOn_102 (by decide) ?_
    refine lv_iadd hx hb dX6_paintsOn_104 ?_
    refine lv_iload_n hx hb dX6_paintsOn_105 rfl (lv_at hl3 3 rfl) ?_
    refine lv_iadd hx hb dX6_paintsOn_106 ?_
    refine lv_dup2_11 hx hb dX6_paintsOn_107 rfl rfl ?_
    obtain ⟨h8, hm⟩ := ckd hm
    refine va_iald (f := (v7_ 50)) hx hb hK hP7 1 0 rfl rfl (inB_vp h8) dX6_paintsOn_108 ?_
    refine lv_iconst (v := (1 : Int32)) hx hb dX6_paintsOn_109 (by decide) ?_
    refine lv_iadd hx hb dX6_paintsOn_110 ?_
    obtain ⟨h9, hm⟩ := ckd hm
    refine va_iast (f := (v7_ 50)) hx hb hK hP7 hD7 hS7 1 0 rfl rfl (inB_vp h9) dX6_paintsOn_111 (fun H10 locs10 hP hD hS10 => ?_)
    obtain ⟨v10_, e10, hm⟩ := ltd hm
    have hP10 : va_P D cls (wX6 q a v10_) H10 := by rw [e10]; exact hP
    have hD10 : va_D (va_A (wX6 q a v) s.heap.size) (wX6 q a v10_) := by rw [e10]; exact hD
    clear hP hD hP7 hD7 hS7
    exact eWv (Wf := fun (uu : SV) => wX6 q a uu) (u := v10_) X hr hlocks hP10 hD10 hS10 hm dX6_paintsOn_112
  refine lv_icmp_ne (tgt := 77) hx hb dX6_paintsOn_22 (by decide) (fun c22 => ?_) (fun c22 => ?_)
  · replace hm := tn hm c22
    exact hJ77 v hm _ _ hP0 hD0 hS0 _ (lv_sub hl1 [0, 1, 2, 3, 4] rfl)
  · replace hm := tp hm c22
    refine lv_iconst (v := (1 : Int32)) hx hb dX6_paintsOn_25 (by decide) ?_
    refine lv_istore (lv' := [(5, .int (1 : Int32)), (4, .int ((x1 + (12 : Int32)) + ((4 : Int32) * x2))), (0, .ref (a 99)), (1, .int x1), (2, .int x2), (3, .int x3)]) hx hb dX6_paintsOn_26 hl1 (by decide) rfl (fun ls11 hl11 => ?_)
    clear hl1
    obtain ⟨r28, hr28, hm⟩ := bn hm
    obtain ⟨n28, hn28⟩ := lpC_ex hr28
    have hE28 : ∀ z28 : Int32 × SV, m_X6_paintsOn_K28 x1 x2 x3 z28 = some res → ∀ (H : Heap) (locs : List Loc), va_P D cls (wX6 q a z28.2) H → va_D (va_A (wX6 q a v) s.heap.size) (wX6 q a z28.2) → va_S (va_A (wX6 q a v) s.heap.size) s.heap H locs → ∀ ls : Array Slot, lv_has ls 6 [(4, .int ((x1 + (12 : Int32)) + ((4 : Int32) * x2))), (0, .ref (a 99)), (1, .int x1), (2, .int x2), (3, .int x3)] → W p l e ((headSpec (mw yX6_paintsOn cX6_paintsOn 6 none) ({ frames := 0, cells := 0, slots := 0, locals := 0 } : Room)).room) s m [.ref (a 99), .int x1, .int x2, .int x3].toArray below meth c H locs 0 0 (MQ below (va_Qv (fun w => w = res) (bW D q (wX6 q a v) s.heap.size (fun (uu : SV) => wX6 q a uu)) (va_A (wX6 q a v) s.heap.size)) [.ref (a 99), .int x1, .int x2, .int x3].toArray s 0 0 (va_A (wX6 q a v) s.heap.size)) (F0 m 62 ls []) := by
      intro z28 hm H15 locs15 hP15 hD15 hS15 ls14 hl14
      unfold m_X6_paintsOn_K28 at hm
      refine lv_aload_n hx hb dX6_paintsOn_62 rfl (lv_at hl14 1 rfl) ?_
      refine va_get (D := D) (ci := 6) (v := .ref (a 0)) (C := RX6) (T := TX6) (N := 40) hx hb hW iX6 hown hK hP15 0 rfl rfl 0 (by decide) (hW _ k_867) (fun _ h => h) rfl dX6_paintsOn_63 ?_
      refine lv_iload_n hx hb dX6_paintsOn_66 rfl (lv_at hl14 2 rfl) ?_
      refine lv_bipush (v := (6 : Int32)) hx hb dX6_paintsOn_67 (by decide) ?_
      refine lv_iadd hx hb dX6_paintsOn_69 ?_
      refine lv_iload_n hx hb dX6_paintsOn_70 rfl (lv_at hl14 3 rfl) ?_
      refine lv_iadd hx hb dX6_paintsOn_71 ?_
      refine lv_dup2_11 hx hb dX6_paintsOn_72 rfl rfl ?_
      obtain ⟨h16, hm⟩ := ckd hm
      refine va_iald (f := (z28.2 50)) hx hb hK hP15 1 0 rfl rfl (inB_vp h16) dX6_paintsOn_73 ?_
      refine lv_iconst (v := (1 : Int32)) hx hb dX6_paintsOn_74 (by decide) ?_
      refine lv_isub hx hb dX6_paintsOn_75 ?_
      obtain ⟨h17, hm⟩ := ckd hm
      refine va_iast (f := (z28.2 50)) hx hb hK hP15 hD15 hS15 1 0 rfl rfl (inB_vp h17) dX6_paintsOn_76 (fun H18 locs18 hP hD hS18 => ?_)
      obtain ⟨v18_, e18, hm⟩ := ltd hm
      have hP18 : va_P D cls (wX6 q a v18_) H18 := by rw [e18]; exact hP
      have hD18 : va_D (va_A (wX6 q a v) s.heap.size) (wX6 q a v18_) := by rw [e18]; exact hD
      clear hP hD hP15 hD15 hS15
      exact hJ77 v18_ hm _ _ hP18 hD18 hS18 _ (lv_sub hl14 [0, 1, 2, 3, 4] rfl)
    have hL28 : ∀ (n : Nat) (z28 : Int32 × SV) (ρ28 : Int32 × SV), lpO (m_X6_paintsOn_L28 x1 x2) n z28 = some ρ28 → (m_X6_paintsOn_K28 x1 x2 x3) ρ28 = some res → ∀ (H : Heap) (locs : List Loc), va_P D cls (wX6 q a z28.2) H → va_D (va_A (wX6 q a v) s.heap.size) (wX6 q a z28.2) → va_S (va_A (wX6 q a v) s.heap.size) s.heap H locs → ∀ ls : Array Slot, lv_has ls 6 [(4, .int ((x1 + (12 : Int32)) + ((4 : Int32) * x2))), (0, .ref (a 99)), (1, .int x1), (2, .int x2), (3, .int x3), (5, .int z28.1)] → W p l e ((headSpec (mw yX6_paintsOn cX6_paintsOn 6 none) ({ frames := 0, cells := 0, slots := 0, locals := 0 } : Room)).room) s m [.ref (a 99), .int x1, .int x2, .int x3].toArray below meth c H locs 0 0 (MQ below (va_Qv (fun w => w = res) (bW D q (wX6 q a v) s.heap.size (fun (uu : SV) => wX6 q a uu)) (va_A (wX6 q a v) s.heap.size)) [.ref (a 99), .int x1, .int x2, .int x3].toArray s 0 0 (va_A (wX6 q a v) s.heap.size)) (F0 m 28 ls []) := by
      intro n
      induction n with
      | zero => intro _ _ h; cases h
      | succ n ih28 =>
        intro z28 ρ28 hz28 hK28 H13 locs13 hP13 hD13 hS13 ls12 hl12
        obtain ⟨t28, hm, hz28⟩ := bn hz28
        unfold m_X6_paintsOn_L28 at hm
        refine lv_iload hx hb dX6_paintsOn_28 (lv_at hl12 5 rfl) ?_
        refine lv_iconst (v := (4 : Int32)) hx hb dX6_paintsOn_30 (by decide) ?_
        refine lv_icmp_ge (tgt := 62) hx hb dX6_paintsOn_31 (by decide) (fun c31 => ?_) (fun c31 => ?_)
        · replace hm := tp hm c31
          cases hm
          cases hz28
          exact hE28 (z28.1, z28.2) hK28 _ _ hP13 hD13 hS13 _ (lv_sub hl12 [0, 1, 2, 3, 4] rfl)
        · replace hm := tn hm c31
          refine lv_aload_n hx hb dX6_paintsOn_34 rfl (lv_at hl12 1 rfl) ?_
          refine va_get (D := D) (ci := 6) (v := .ref (a 0)) (C := RX6) (T := TX6) (N := 40) hx hb hW iX6 hown hK hP13 0 rfl rfl 0 (by decide) (hW _ k_867) (fun _ h => h) rfl dX6_paintsOn_35 ?_
          refine lv_iload hx hb dX6_paintsOn_38 (lv_at hl12 0 rfl) ?_
          refine lv_iload hx hb dX6_paintsOn_40 (lv_at hl12 5 rfl) ?_
          refine lv_iadd hx hb dX6_paintsOn_42 ?_
          refine lv_iconst (v := (1 : Int32)) hx hb dX6_paintsOn_43 (by decide) ?_
          refine lv_isub hx hb dX6_paintsOn_44 ?_
          refine lv_aload_n hx hb dX6_paintsOn_45 rfl (lv_at hl12 1 rfl) ?_
          refine va_get (D := D) (ci := 6) (v := .ref (a 0)) (C := RX6) (T := TX6) (N := 40) hx hb hW iX6 hown hK hP13 0 rfl rfl 0 (by decide) (hW _ k_867) (fun _ h => h) rfl dX6_paintsOn_46 ?_
          refine lv_iload hx hb dX6_paintsOn_49 (lv_at hl12 0 rfl) ?_
          refine lv_iload hx hb dX6_paintsOn_51 (lv_at hl12 5 rfl) ?_
          refine lv_iadd hx hb dX6_paintsOn_53 ?_
          obtain ⟨h19, hm⟩ := ckd hm
          refine va_iald (f := (z28.2 50)) hx hb hK hP13 1 0 rfl rfl (inB_vp h19) dX6_paintsOn_54 ?_
          obtain ⟨h20, hm⟩ := ckd hm
          refine va_iast (f := (z28.2 50)) hx hb hK hP13 hD13 hS13 1 0 rfl rfl (inB_vp h20) dX6_paintsOn_55 (fun H21 locs21 hP hD hS21 => ?_)
          obtain ⟨v21_, e21, hm⟩ := ltd hm
          have hP21 : va_P D cls (wX6 q a v21_) H21 := by rw [e21]; exact hP
          have hD21 : va_D (va_A (wX6 q a v) s.heap.size) (wX6 q a v21_) := by rw [e21]; exact hD
          clear hP hD hP13 hD13 hS13
          refine lv_iinc (v := (z28.1 + (1 : Int32))) (lv' := [(5, .int (z28.1 + (1 : Int32))), (4, .int ((x1 + (12 : Int32)) + ((4 : Int32) * x2))), (0, .ref (a 99)), (1, .int x1), (2, .int x2), (3, .int x3)]) hx hb dX6_paintsOn_56 hl12 (k := 5) rfl rfl (by decide) rfl (fun ls22 hl22 => ?_)
          clear hl12
          refine lv_goto (tgt := 28) hx hb dX6_paintsOn_59 (by decide) ?_
          cases hm
          exact ih28 ((z28.1 + (1 : Int32)), v21_) ρ28 hz28 hK28 _ _ hP21 hD21 hS21 _ (lv_sub hl22 [1, 2, 3, 4, 5, 0] rfl)
    exact hL28 n28 ((1 : Int32), v) r28 hn28 hm _ _ hP0 hD0 hS0 _ (lv_sub hl11 [1, 2, 3, 4, 5, 0] rfl)
noncomputable def m_X6_painted (v : SV) (x1 : Int32) (x2 : Int32) : Option (Int32 × SV) :=
  (m_X6_isPart v x1).bind (fun y2 => (if y2 = 0 then some ((-1 : Int32), v) else (m_X6_isSitter v x2).bind (fun y10 => (if y10 = 0 then some ((-1 : Int32), v) else ck (inB ((6 : Int32) + x1) 315) ((if (v 50 ((((6 : Int32) + x1)).toNatClampNeg)) = (4 : Int32) then some ((-3 : Int32), v) else (m_X6_paintsOn v (0 : Int32) x1 x2).bind (fun y38 => ck (inB ((6 : Int32) + x1) 315) (some ((y38 50 ((((6 : Int32) + x1)).toNatClampNeg)), y38)))))))))
set_option maxHeartbeats 4000000 in
set_option maxRecDepth 100000 in
theorem c_X6_painted (l : Launch) (D : va_G) (q : Nat → ClassId) (sz : Nat) (a : Nat → Nat) (v : SV) (x1 : Int32) (x2 : Int32) (res : Int32 × SV) (hm : m_X6_painted v x1 x2 = some res) : Met l yX6_painted (mw yX6_painted cX6_painted 3 (some .int)) ({ frames := 2, cells := 0, slots := 0, locals := 46 } : Room) (pcW D q (wX6 q a v) sz [.ref (a 99), .int x1, .int x2]) (va_Qi (fun r w => r = res.1 ∧ w = res.2) (bW D q (wX6 q a v) sz (fun (uu : SV) => wX6 q a uu)) (va_A (wX6 q a v) sz)) 0 0 (va_A (wX6 q a v) sz) := by
  refine Met.ofW (cc := cX6_painted) (maxL := 3) (ret := (some .int)) (by decide) rfl ?_
  intro p e s m args below meth c s₁ B hml hv
  obtain ⟨rfl, hsz, hP0, hK, hD0⟩ := hv
  have hx := B.exec
  have hb := B.bytes
  have hr := B.returns
  have hW := mw_ws (atoms_spec (ws := mw yX6_painted cX6_painted 3 (some .int)) B.pre)
  have hown : s.vm.findClass RX6 = some m.cls := findClass_of_methodNamed B.named
  have hlocks := B.notSynchronized
  have X : Cx p s m [.ref (a 99), .int x1, .int x2].toArray c cX6_painted 3 RX6 D q := ⟨hx, hb, hml, hown, hW, hK⟩
  subst hsz
  replace hD0 := hD0.self (sz := s.heap.size)
  have hS0 : va_S (va_A (wX6 q a v) s.heap.size) s.heap s.heap [] := va_S.rf
  have hl0 := lv_entry ([.ref (a 99), .int x1, .int x2]) (n := 3) (Nat.le_of_ble_eq_true rfl)
  rw [lg_entry_eq]
  generalize (lg_sl ([.ref (a 99), .int x1, .int x2]) ++ List.replicate (3 - (lg_sl ([.ref (a 99), .int x1, .int x2])).length) Slot.unset).toArray = ls0 at hl0 ⊢
  have hl0 : lv_has ls0 3 [(0, .ref (a 99)), (1, .int x1), (2, .int x2)] := hl0
  unfold m_X6_painted at hm
  refine lv_aload_n hx hb dX6_painted_0 rfl (lv_at hl0 0 rfl) ?_
  refine lv_iload_n hx hb dX6_painted_1 rfl (lv_at hl0 1 rfl) ?_
  obtain ⟨y2, hy2, hm⟩ := bn hm
  refine cVRi (As := [.int x1]) (rest := []) X hP0 hl0.1 (c_X6_isPart l D q a v x1 y2 hy2) [0, 1, 2, 3, 4, 5, 6, 7, 8, 9, 10, 11, 12, 13, 14, 15, 16, 17] rfl 0 rfl rfl rfl k_1086 mX6_isPart ⟨rfl, rfl⟩ ⟨Nat.le_of_ble_eq_true rfl, Nat.le_of_ble_eq_true rfl⟩ rfl rfl (Nat.le_of_ble_eq_true rfl) dX6_painted_2 ⟨Nat.zero_le _, Nat.zero_le _⟩ ?_
  refine lv_if_eq (tgt := 16) hx hb dX6_painted_5 (by decide) (fun c5 => ?_) (fun c5 => ?_)
  · replace hm := tp hm c5
    refine lv_iconst (v := (-1 : Int32)) hx hb dX6_painted_16 (by decide) ?_
    exact eWi (Wf := fun (uu : SV) => wX6 q a uu) (u := v) X hr hlocks hP0 hD0 hS0 hm dX6_painted_17
  · replace hm := tn hm c5
    refine lv_aload_n hx hb dX6_painted_8 rfl (lv_at hl0 0 rfl) ?_
    refine lv_iload_n hx hb dX6_painted_9 rfl (lv_at hl0 2 rfl) ?_
    obtain ⟨y10, hy10, hm⟩ := bn hm
    refine cVRi (As := [.int x2]) (rest := []) X hP0 hl0.1 (c_X6_isSitter l D q a v x2 y10 hy10) [0, 1, 2, 3, 4, 5, 6, 7, 8, 9, 10, 11, 12, 13, 14, 15, 16, 17] rfl 0 rfl rfl rfl k_1102 mX6_isSitter ⟨rfl, rfl⟩ ⟨Nat.le_of_ble_eq_true rfl, Nat.le_of_ble_eq_true rfl⟩ rfl rfl (Nat.le_of_ble_eq_true rfl) dX6_painted_10 ⟨Nat.zero_le _, Nat.zero_le _⟩ ?_
    refine lv_if_ne (tgt := 18) hx hb dX6_painted_13 (by decide) (fun c13 => ?_) (fun c13 => ?_)
    · replace hm := tn hm c13
      refine lv_aload_n hx hb dX6_painted_18 rfl (lv_at hl0 0 rfl) ?_
      refine va_get (D := D) (ci := 6) (v := .ref (a 0)) (C := RX6) (T := TX6) (N := 40) hx hb hW iX6 hown hK hP0 0 rfl rfl 0 (by decide) (hW _ k_867) (fun _ h => h) rfl dX6_painted_19 ?_
      refine lv_bipush (v := (6 : Int32)) hx hb dX6_painted_22 (by decide) ?_
      refine lv_iload_n hx hb dX6_painted_24 rfl (lv_at hl0 1 rfl) ?_
      refine lv_iadd hx hb dX6_painted_25 ?_
      obtain ⟨h1, hm⟩ := ckd hm
      refine va_iald (f := (v 50)) hx hb hK hP0 1 0 rfl rfl (inB_vp h1) dX6_painted_26 ?_
      refine lv_iconst (v := (4 : Int32)) hx hb dX6_painted_27 (by decide) ?_
      refine lv_icmp_ne (tgt := 34) hx hb dX6_painted_28 (by decide) (fun c28 => ?_) (fun c28 => ?_)
      · replace hm := tn hm c28
        refine lv_aload_n hx hb dX6_painted_34 rfl (lv_at hl0 0 rfl) ?_
        refine lv_iconst (v := (0 : Int32)) hx hb dX6_painted_35 (by decide) ?_
        refine lv_iload_n hx hb dX6_painted_36 rfl (lv_at hl0 1 rfl) ?_
        refine lv_iload_n hx hb dX6_painted_37 rfl (lv_at hl0 2 rfl) ?_
        obtain ⟨y38, hy38, hm⟩ := bn hm
        refine cVWv (As := [.int (0 : Int32), .int x1, .int x2]) (rest := []) (Wn := fun (uu : SV) => wX6 q a uu) X hP0 hD0 hS0 (fun _ h => Or.inr h) hl0.1 (c_X6_paintsOn l D q s.heap.size a v (0 : Int32) x1 x2 y38 hy38) [0, 1, 2, 3, 4, 5, 6, 7, 8, 9, 10, 11, 12, 13, 14, 15, 16, 17] [] [0, 1, 2, 3, 4, 5, 6, 7, 8, 9, 10, 11, 12, 13, 14, 15, 16, 17] rfl (Wr := []) rfl (by decide) (by decide) (by decide) (by decide) (fun _ => rfl) 0 rfl rfl rfl k_1140 mX6_paintsOn ⟨rfl, rfl⟩ ⟨Nat.le_of_ble_eq_true rfl, Nat.le_of_ble_eq_true rfl⟩ rfl rfl (Nat.le_of_ble_eq_true rfl) dX6_painted_38 ⟨Nat.zero_le _, Nat.zero_le _⟩ (fun H2 locs2 hP hD hS2 => ?_)
        have hP2 : va_P D cls (wX6 q a y38) H2 := hP
        have hD2 : va_D (va_A (wX6 q a v) s.heap.size) (wX6 q a y38) := hD
        clear hP hD hP0 hD0 hS0
        refine lv_aload_n hx hb dX6_painted_41 rfl (lv_at hl0 0 rfl) ?_
        refine va_get (D := D) (ci := 6) (v := .ref (a 0)) (C := RX6) (T := TX6) (N := 40) hx hb hW iX6 hown hK hP2 0 rfl rfl 0 (by decide) (hW _ k_867) (fun _ h => h) rfl dX6_painted_42 ?_
        refine lv_bipush (v := (6 : Int32)) hx hb dX6_painted_45 (by decide) ?_
        refine lv_iload_n hx hb dX6_painted_47 rfl (lv_at hl0 1 rfl) ?_
        refine lv_iadd hx hb dX6_painted_48 ?_
        obtain ⟨h3, hm⟩ := ckd hm
        refine va_iald (f := (y38 50)) hx hb hK hP2 1 0 rfl rfl (inB_vp h3) dX6_painted_49 ?_
        exact eWi (Wf := fun (uu : SV) => wX6 q a uu) (u := y38) X hr hlocks hP2 hD2 hS2 hm dX6_painted_50
      · replace hm := tp hm c28
        refine lv_bipush (v := (-3 : Int32)) hx hb dX6_painted_31 (by decide) ?_
        exact eWi (Wf := fun (uu : SV) => wX6 q a uu) (u := v) X hr hlocks hP0 hD0 hS0 hm dX6_painted_33
    · replace hm := tp hm c13
      refine lv_iconst (v := (-1 : Int32)) hx hb dX6_painted_16 (by decide) ?_
      exact eWi (Wf := fun (uu : SV) => wX6 q a uu) (u := v) X hr hlocks hP0 hD0 hS0 hm dX6_painted_17
noncomputable def m_X6_paint (v : SV) (x1 : Int32) (x2 : Int32) : Option (Int32 × SV) :=
  (m_X6_painted v x1 x2).bind (fun y3 => some (y3.1, y3.2))
set_option maxHeartbeats 4000000 in
set_option maxRecDepth 100000 in
theorem c_X6_paint (l : Launch) (D : va_G) (q : Nat → ClassId) (sz : Nat) (a : Nat → Nat) (v : SV) (x1 : Int32) (x2 : Int32) (res : Int32 × SV) (hm : m_X6_paint v x1 x2 = some res) : Met l yX6_paint (mw yX6_paint cX6_paint 3 (some .int)) ({ frames := 3, cells := 0, slots := 0, locals := 68 } : Room) (pcW D q (wX6 q a v) sz [.ref (a 99), .int x1, .int x2]) (va_Qi (fun r w => r = res.1 ∧ w = res.2) (bW D q (wX6 q a v) sz (fun (uu : SV) => wX6 q a uu)) (va_A (wX6 q a v) sz)) 0 0 (va_A (wX6 q a v) sz) := by
  refine Met.ofW (cc := cX6_paint) (maxL := 3) (ret := (some .int)) (by decide) rfl ?_
  intro p e s m args below meth c s₁ B hml hv
  obtain ⟨rfl, hsz, hP0, hK, hD0⟩ := hv
  have hx := B.exec
  have hb := B.bytes
  have hr := B.returns
  have hW := mw_ws (atoms_spec (ws := mw yX6_paint cX6_paint 3 (some .int)) B.pre)
  have hown : s.vm.findClass RX6 = some m.cls := findClass_of_methodNamed B.named
  have hlocks := B.notSynchronized
  have X : Cx p s m [.ref (a 99), .int x1, .int x2].toArray c cX6_paint 3 RX6 D q := ⟨hx, hb, hml, hown, hW, hK⟩
  subst hsz
  replace hD0 := hD0.self (sz := s.heap.size)
  have hS0 : va_S (va_A (wX6 q a v) s.heap.size) s.heap s.heap [] := va_S.rf
  have hl0 := lv_entry ([.ref (a 99), .int x1, .int x2]) (n := 3) (Nat.le_of_ble_eq_true rfl)
  rw [lg_entry_eq]
  generalize (lg_sl ([.ref (a 99), .int x1, .int x2]) ++ List.replicate (3 - (lg_sl ([.ref (a 99), .int x1, .int x2])).length) Slot.unset).toArray = ls0 at hl0 ⊢
  have hl0 : lv_has ls0 3 [(0, .ref (a 99)), (1, .int x1), (2, .int x2)] := hl0
  unfold m_X6_paint at hm
  refine lv_aload_n hx hb dX6_paint_0 rfl (lv_at hl0 0 rfl) ?_
  refine lv_iload_n hx hb dX6_paint_1 rfl (lv_at hl0 1 rfl) ?_
  refine lv_iload_n hx hb dX6_paint_2 rfl (lv_at hl0 2 rfl) ?_
  obtain ⟨y3, hy3, hm⟩ := bn hm
  refine cVWi (As := [.int x1, .int x2]) (rest := []) (Wn := fun (uu : SV) => wX6 q a uu) X hP0 hD0 hS0 (fun _ h => Or.inr h) hl0.1 (c_X6_painted l D q s.heap.size a v x1 x2 y3 hy3) [0, 1, 2, 3, 4, 5, 6, 7, 8, 9, 10, 11, 12, 13, 14, 15, 16, 17] [] [0, 1, 2, 3, 4, 5, 6, 7, 8, 9, 10, 11, 12, 13, 14, 15, 16, 17] rfl (Wr := []) rfl (by decide) (by decide) (by decide) (by decide) (fun _ => rfl) 0 rfl rfl rfl k_1136 mX6_painted ⟨rfl, rfl⟩ ⟨Nat.le_of_ble_eq_true rfl, Nat.le_of_ble_eq_true rfl⟩ rfl rfl (Nat.le_of_ble_eq_true rfl) dX6_paint_3 ⟨Nat.zero_le _, Nat.zero_le _⟩ (fun H1 locs1 hP hD hS1 => ?_)
  have hP1 : va_P D cls (wX6 q a y3.2) H1 := hP
  have hD1 : va_D (va_A (wX6 q a v) s.heap.size) (wX6 q a y3.2) := hD
  clear hP hD hP0 hD0 hS0
  exact eWi (Wf := fun (uu : SV) => wX6 q a uu) (u := y3.2) X hr hlocks hP1 hD1 hS1 hm dX6_paint_6
noncomputable def m_X6_scrape (v : SV) (x1 : Int32) : Option (Int32 × SV) :=
  (m_X6_isPart v x1).bind (fun y2 => (if y2 = 0 then some ((-1 : Int32), v) else (m_X6_topOn v (0 : Int32) x1).bind (fun y13 => ck (inB ((6 : Int32) + x1) 315) ((if y13 = (-4 : Int32) then ck (inB ((6 : Int32) + x1) 315) (lett (up2 v 50 ((((6 : Int32) + x1)).toNatClampNeg) ((v 50 ((((6 : Int32) + x1)).toNatClampNeg)) - (0 : Int32))) (fun v4_ => (if y13 = (-4 : Int32) then some ((-2 : Int32), v4_) else some (y13, v4_)))) else ck (inB ((6 : Int32) + x1) 315) (lett (up2 v 50 ((((6 : Int32) + x1)).toNatClampNeg) ((v 50 ((((6 : Int32) + x1)).toNatClampNeg)) - (1 : Int32))) (fun v6_ => (if y13 = (-4 : Int32) then some ((-2 : Int32), v6_) else some (y13, v6_)))))))))
set_option maxHeartbeats 4000000 in
set_option maxRecDepth 100000 in
theorem c_X6_scrape (l : Launch) (D : va_G) (q : Nat → ClassId) (sz : Nat) (a : Nat → Nat) (v : SV) (x1 : Int32) (res : Int32 × SV) (hm : m_X6_scrape v x1 = some res) : Met l yX6_scrape (mw yX6_scrape cX6_scrape 3 (some .int)) ({ frames := 2, cells := 0, slots := 0, locals := 46 } : Room) (pcW D q (wX6 q a v) sz [.ref (a 99), .int x1]) (va_Qi (fun r w => r = res.1 ∧ w = res.2) (bW D q (wX6 q a v) sz (fun (uu : SV) => wX6 q a uu)) (va_A (wX6 q a v) sz)) 0 0 (va_A (wX6 q a v) sz) := by
  refine Met.ofW (cc := cX6_scrape) (maxL := 3) (ret := (some .int)) (by decide) rfl ?_
  intro p e s m args below meth c s₁ B hml hv
  obtain ⟨rfl, hsz, hP0, hK, hD0⟩ := hv
  have hx := B.exec
  have hb := B.bytes
  have hr := B.returns
  have hW := mw_ws (atoms_spec (ws := mw yX6_scrape cX6_scrape 3 (some .int)) B.pre)
  have hown : s.vm.findClass RX6 = some m.cls := findClass_of_methodNamed B.named
  have hlocks := B.notSynchronized
  have X : Cx p s m [.ref (a 99), .int x1].toArray c cX6_scrape 3 RX6 D q := ⟨hx, hb, hml, hown, hW, hK⟩
  subst hsz
  replace hD0 := hD0.self (sz := s.heap.size)
  have hS0 : va_S (va_A (wX6 q a v) s.heap.size) s.heap s.heap [] := va_S.rf
  have hl0 := lv_entry ([.ref (a 99), .int x1]) (n := 3) (Nat.le_of_ble_eq_true rfl)
  rw [lg_entry_eq]
  generalize (lg_sl ([.ref (a 99), .int x1]) ++ List.replicate (3 - (lg_sl ([.ref (a 99), .int x1])).length) Slot.unset).toArray = ls0 at hl0 ⊢
  have hl0 : lv_has ls0 3 [(0, .ref (a 99)), (1, .int x1)] := hl0
  unfold m_X6_scrape at hm
  refine lv_aload_n hx hb dX6_scrape_0 rfl (lv_at hl0 0 rfl) ?_
  refine lv_iload_n hx hb dX6_scrape_1 rfl (lv_at hl0 1 rfl) ?_
  obtain ⟨y2, hy2, hm⟩ := bn hm
  refine cVRi (As := [.int x1]) (rest := []) X hP0 hl0.1 (c_X6_isPart l D q a v x1 y2 hy2) [0, 1, 2, 3, 4, 5, 6, 7, 8, 9, 10, 11, 12, 13, 14, 15, 16, 17] rfl 0 rfl rfl rfl k_1086 mX6_isPart ⟨rfl, rfl⟩ ⟨Nat.le_of_ble_eq_true rfl, Nat.le_of_ble_eq_true rfl⟩ rfl rfl (Nat.le_of_ble_eq_true rfl) dX6_scrape_2 ⟨Nat.zero_le _, Nat.zero_le _⟩ ?_
  refine lv_if_ne (tgt := 10) hx hb dX6_scrape_5 (by decide) (fun c5 => ?_) (fun c5 => ?_)
  · replace hm := tn hm c5
    refine lv_aload_n hx hb dX6_scrape_10 rfl (lv_at hl0 0 rfl) ?_
    refine lv_iconst (v := (0 : Int32)) hx hb dX6_scrape_11 (by decide) ?_
    refine lv_iload_n hx hb dX6_scrape_12 rfl (lv_at hl0 1 rfl) ?_
    obtain ⟨y13, hy13, hm⟩ := bn hm
    refine cVRi (As := [.int (0 : Int32), .int x1]) (rest := []) X hP0 hl0.1 (c_X6_topOn l D q a v (0 : Int32) x1 y13 hy13) [0, 1, 2, 3, 4, 5, 6, 7, 8, 9, 10, 11, 12, 13, 14, 15, 16, 17] rfl 0 rfl rfl rfl k_1078 mX6_topOn ⟨rfl, rfl⟩ ⟨Nat.le_of_ble_eq_true rfl, Nat.le_of_ble_eq_true rfl⟩ rfl rfl (Nat.le_of_ble_eq_true rfl) dX6_scrape_13 ⟨Nat.zero_le _, Nat.zero_le _⟩ ?_
    refine lv_istore_n (lv' := [(2, .int y13), (0, .ref (a 99)), (1, .int x1)]) hx hb dX6_scrape_16 rfl hl0 (by decide) rfl (fun ls1 hl1 => ?_)
    clear hl0
    refine lv_aload_n hx hb dX6_scrape_17 rfl (lv_at hl1 1 rfl) ?_
    refine va_get (D := D) (ci := 6) (v := .ref (a 0)) (C := RX6) (T := TX6) (N := 40) hx hb hW iX6 hown hK hP0 0 rfl rfl 0 (by decide) (hW _ k_867) (fun _ h => h) rfl dX6_scrape_18 ?_
    refine lv_bipush (v := (6 : Int32)) hx hb dX6_scrape_21 (by decide) ?_
    refine lv_iload_n hx hb dX6_scrape_23 rfl (lv_at hl1 2 rfl) ?_
    refine lv_iadd hx hb dX6_scrape_24 ?_
    refine lv_dup2_11 hx hb dX6_scrape_25 rfl rfl ?_
    obtain ⟨h2, hm⟩ := ckd hm
    refine va_iald (f := (v 50)) hx hb hK hP0 1 0 rfl rfl (inB_vp h2) dX6_scrape_26 ?_
    refine lv_iload_n hx hb dX6_scrape_27 rfl (lv_at hl1 0 rfl) ?_
    refine lv_bipush (v := (-4 : Int32)) hx hb dX6_scrape_28 (by decide) ?_
    refine lv_icmp_ne (tgt := 37) hx hb dX6_scrape_30 (by decide) (fun c30 => ?_) (fun c30 => ?_)
    · replace hm := tn hm c30
      refine lv_iconst (v := (1 : Int32)) hx hb dX6_scrape_37 (by decide) ?_
      refine lv_isub hx hb dX6_scrape_38 ?_
      obtain ⟨h5, hm⟩ := ckd hm
      refine va_iast (f := (v 50)) hx hb hK hP0 hD0 hS0 1 0 rfl rfl (inB_vp h5) dX6_scrape_39 (fun H6 locs6 hP hD hS6 => ?_)
      obtain ⟨v6_, e6, hm⟩ := ltd hm
      have hP6 : va_P D cls (wX6 q a v6_) H6 := by rw [e6]; exact hP
      have hD6 : va_D (va_A (wX6 q a v) s.heap.size) (wX6 q a v6_) := by rw [e6]; exact hD
      clear hP hD hP0 hD0 hS0
      refine lv_iload_n hx hb dX6_scrape_40 rfl (lv_at hl1 0 rfl) ?_
      refine lv_bipush (v := (-4 : Int32)) hx hb dX6_scrape_41 (by decide) ?_
      refine lv_icmp_ne (tgt := 51) hx hb dX6_scrape_43 (by decide) (fun c43 => ?_) (fun c43 => ?_)
      · replace hm := tn hm c43
        refine lv_iload_n hx hb dX6_scrape_51 rfl (lv_at hl1 0 rfl) ?_
        exact eWi (Wf := fun (uu : SV) => wX6 q a uu) (u := v6_) X hr hlocks hP6 hD6 hS6 hm dX6_scrape_52
      · replace hm := tp hm c43
        refine lv_bipush (v := (-2 : Int32)) hx hb dX6_scrape_46 (by decide) ?_
        refine lv_goto (tgt := 52) hx hb dX6_scrape_48 (by decide) ?_
        exact eWi (Wf := fun (uu : SV) => wX6 q a uu) (u := v6_) X hr hlocks hP6 hD6 hS6 hm dX6_scrape_52
    · replace hm := tp hm c30
      refine lv_iconst (v := (0 : Int32)) hx hb dX6_scrape_33 (by decide) ?_
      refine lv_goto (tgt := 38) hx hb dX6_scrape_34 (by decide) ?_
      refine lv_isub hx hb dX6_scrape_38 ?_
      obtain ⟨h3, hm⟩ := ckd hm
      refine va_iast (f := (v 50)) hx hb hK hP0 hD0 hS0 1 0 rfl rfl (inB_vp h3) dX6_scrape_39 (fun H4 locs4 hP hD hS4 => ?_)
      obtain ⟨v4_, e4, hm⟩ := ltd hm
      have hP4 : va_P D cls (wX6 q a v4_) H4 := by rw [e4]; exact hP
      have hD4 : va_D (va_A (wX6 q a v) s.heap.size) (wX6 q a v4_) := by rw [e4]; exact hD
      clear hP hD hP0 hD0 hS0
      refine lv_iload_n hx hb dX6_scrape_40 rfl (lv_at hl1 0 rfl) ?_
      refine lv_bipush (v := (-4 : Int32)) hx hb dX6_scrape_41 (by decide) ?_
      refine lv_icmp_ne (tgt := 51) hx hb dX6_scrape_43 (by decide) (fun c43 => ?_) (fun c43 => ?_)
      · replace hm := tn hm c43
        refine lv_iload_n hx hb dX6_scrape_51 rfl (lv_at hl1 0 rfl) ?_
        exact eWi (Wf := fun (uu : SV) => wX6 q a uu) (u := v4_) X hr hlocks hP4 hD4 hS4 hm dX6_scrape_52
      · replace hm := tp hm c43
        refine lv_bipush (v := (-2 : Int32)) hx hb dX6_scrape_46 (by decide) ?_
        refine lv_goto (tgt := 52) hx hb dX6_scrape_48 (by decide) ?_
        exact eWi (Wf := fun (uu : SV) => wX6 q a uu) (u := v4_) X hr hlocks hP4 hD4 hS4 hm dX6_scrape_52
  · replace hm := tp hm c5
    refine lv_iconst (v := (-1 : Int32)) hx hb dX6_scrape_8 (by decide) ?_
    exact eWi (Wf := fun (uu : SV) => wX6 q a uu) (u := v) X hr hlocks hP0 hD0 hS0 hm dX6_scrape_9
noncomputable def m_X6_puts (v : SV) (x1 : Int32) (x2 : Int32) (x3 : Int32) (x4 : Int32) : Option (Int32 × SV) :=
  (if x1 = 0 then some ((-1 : Int32), v) else ck (inB x2 315) (ck (inB x2 315) (lett (up2 v 50 ((x2).toNatClampNeg) (x3 - x4)) (fun v4_ => some (((v 50 ((x2).toNatClampNeg)) + x4), v4_)))))
set_option maxHeartbeats 4000000 in
set_option maxRecDepth 100000 in
theorem c_X6_puts (l : Launch) (D : va_G) (q : Nat → ClassId) (sz : Nat) (a : Nat → Nat) (v : SV) (x1 : Int32) (x2 : Int32) (x3 : Int32) (x4 : Int32) (res : Int32 × SV) (hm : m_X6_puts v x1 x2 x3 x4 = some res) : Met l yX6_puts (mw yX6_puts cX6_puts 6 (some .int)) ({ frames := 0, cells := 0, slots := 0, locals := 0 } : Room) (pcW D q (wX6 q a v) sz [.ref (a 99), .int x1, .int x2, .int x3, .int x4]) (va_Qi (fun r w => r = res.1 ∧ w = res.2) (bW D q (wX6 q a v) sz (fun (uu : SV) => wX6 q a uu)) (va_A (wX6 q a v) sz)) 0 0 (va_A (wX6 q a v) sz) := by
  refine Met.ofW (cc := cX6_puts) (maxL := 6) (ret := (some .int)) (by decide) rfl ?_
  intro p e s m args below meth c s₁ B hml hv
  obtain ⟨rfl, hsz, hP0, hK, hD0⟩ := hv
  have hx := B.exec
  have hb := B.bytes
  have hr := B.returns
  have hW := mw_ws (atoms_spec (ws := mw yX6_puts cX6_puts 6 (some .int)) B.pre)
  have hown : s.vm.findClass RX6 = some m.cls := findClass_of_methodNamed B.named
  have hlocks := B.notSynchronized
  have X : Cx p s m [.ref (a 99), .int x1, .int x2, .int x3, .int x4].toArray c cX6_puts 6 RX6 D q := ⟨hx, hb, hml, hown, hW, hK⟩
  subst hsz
  replace hD0 := hD0.self (sz := s.heap.size)
  have hS0 : va_S (va_A (wX6 q a v) s.heap.size) s.heap s.heap [] := va_S.rf
  have hl0 := lv_entry ([.ref (a 99), .int x1, .int x2, .int x3, .int x4]) (n := 6) (Nat.le_of_ble_eq_true rfl)
  rw [lg_entry_eq]
  generalize (lg_sl ([.ref (a 99), .int x1, .int x2, .int x3, .int x4]) ++ List.replicate (6 - (lg_sl ([.ref (a 99), .int x1, .int x2, .int x3, .int x4])).length) Slot.unset).toArray = ls0 at hl0 ⊢
  have hl0 : lv_has ls0 6 [(0, .ref (a 99)), (1, .int x1), (2, .int x2), (3, .int x3), (4, .int x4)] := hl0
  unfold m_X6_puts at hm
  refine lv_iload_n hx hb dX6_puts_0 rfl (lv_at hl0 1 rfl) ?_
  refine lv_if_ne (tgt := 6) hx hb dX6_puts_1 (by decide) (fun c1 => ?_) (fun c1 => ?_)
  · replace hm := tn hm c1
    refine lv_aload_n hx hb dX6_puts_6 rfl (lv_at hl0 0 rfl) ?_
    refine va_get (D := D) (ci := 6) (v := .ref (a 0)) (C := RX6) (T := TX6) (N := 40) hx hb hW iX6 hown hK hP0 0 rfl rfl 0 (by decide) (hW _ k_867) (fun _ h => h) rfl dX6_puts_7 ?_
    refine lv_iload_n hx hb dX6_puts_10 rfl (lv_at hl0 2 rfl) ?_
    obtain ⟨h1, hm⟩ := ckd hm
    refine va_iald (f := (v 50)) hx hb hK hP0 1 0 rfl rfl (inB_vp h1) dX6_puts_11 ?_
    refine lv_iload hx hb dX6_puts_12 (lv_at hl0 4 rfl) ?_
    refine lv_iadd hx hb dX6_puts_14 ?_
    refine lv_istore (lv' := [(5, .int ((v 50 ((x2).toNatClampNeg)) + x4)), (0, .ref (a 99)), (1, .int x1), (2, .int x2), (3, .int x3), (4, .int x4)]) hx hb dX6_puts_15 hl0 (by decide) rfl (fun ls2 hl2 => ?_)
    clear hl0
    refine lv_aload_n hx hb dX6_puts_17 rfl (lv_at hl2 1 rfl) ?_
    refine va_get (D := D) (ci := 6) (v := .ref (a 0)) (C := RX6) (T := TX6) (N := 40) hx hb hW iX6 hown hK hP0 0 rfl rfl 0 (by decide) (hW _ k_867) (fun _ h => h) rfl dX6_puts_18 ?_
    refine lv_iload_n hx hb dX6_puts_21 rfl (lv_at hl2 3 rfl) ?_
    refine lv_iload_n hx hb dX6_puts_22 rfl (lv_at hl2 4 rfl) ?_
    refine lv_iload hx hb dX6_puts_23 (lv_at hl2 5 rfl) ?_
    refine lv_isub hx hb dX6_puts_25 ?_
    obtain ⟨h3, hm⟩ := ckd hm
    refine va_iast (f := (v 50)) hx hb hK hP0 hD0 hS0 1 0 rfl rfl (inB_vp h3) dX6_puts_26 (fun H4 locs4 hP hD hS4 => ?_)
    obtain ⟨v4_, e4, hm⟩ := ltd hm
    have hP4 : va_P D cls (wX6 q a v4_) H4 := by rw [e4]; exact hP
    have hD4 : va_D (va_A (wX6 q a v) s.heap.size) (wX6 q a v4_) := by rw [e4]; exact hD
    clear hP hD hP0 hD0 hS0
    refine lv_iload hx hb dX6_puts_27 (lv_at hl2 0 rfl) ?_
    exact eWi (Wf := fun (uu : SV) => wX6 q a uu) (u := v4_) X hr hlocks hP4 hD4 hS4 hm dX6_puts_29
  · replace hm := tp hm c1
    refine lv_iconst (v := (-1 : Int32)) hx hb dX6_puts_4 (by decide) ?_
    exact eWi (Wf := fun (uu : SV) => wX6 q a uu) (u := v) X hr hlocks hP0 hD0 hS0 hm dX6_puts_5
noncomputable def m_X6_alter_J29 (v : SV) (x1 : Int32) (x2 : Int32) (x3 : Int32) (z29 : Int32) : Option (Int32 × SV) :=
  (m_X6_isSitter v x1).bind (fun y34 => (if y34 = 0 then (m_X6_puts v (0 : Int32) (((36 : Int32) + ((5 : Int32) * x2)) + x1) x3 (0 : Int32)).bind (fun y79 => some (y79.1, y79.2)) else (m_X6_in (x2.toInt64) (0 : Int64) (3 : Int64)).bind (fun y46 => (if y46 = 0 then (m_X6_puts v (0 : Int32) (((36 : Int32) + ((5 : Int32) * x2)) + x1) x3 (0 : Int32)).bind (fun y79 => some (y79.1, y79.2)) else (m_X6_in (x3.toInt64) (0 : Int64) (z29.toInt64)).bind (fun y58 => (if y58 = 0 then (m_X6_puts v (0 : Int32) (((36 : Int32) + ((5 : Int32) * x2)) + x1) x3 (0 : Int32)).bind (fun y79 => some (y79.1, y79.2)) else (m_X6_puts v (1 : Int32) (((36 : Int32) + ((5 : Int32) * x2)) + x1) x3 (0 : Int32)).bind (fun y79 => some (y79.1, y79.2))))))))
noncomputable def m_X6_alter (v : SV) (x1 : Int32) (x2 : Int32) (x3 : Int32) : Option (Int32 × SV) :=
  (if x2 = 0 then m_X6_alter_J29 v x1 x2 x3 (3 : Int32) else (if x2 = (1 : Int32) then m_X6_alter_J29 v x1 x2 x3 (5 : Int32) else (if x2 = (2 : Int32) then m_X6_alter_J29 v x1 x2 x3 (9 : Int32) else m_X6_alter_J29 v x1 x2 x3 (127 : Int32))))
set_option maxHeartbeats 4000000 in
set_option maxRecDepth 100000 in
theorem c_X6_alter (l : Launch) (D : va_G) (q : Nat → ClassId) (sz : Nat) (a : Nat → Nat) (v : SV) (x1 : Int32) (x2 : Int32) (x3 : Int32) (res : Int32 × SV) (hm : m_X6_alter v x1 x2 x3 = some res) : Met l yX6_alter (mw yX6_alter cX6_alter 5 (some .int)) ({ frames := 2, cells := 0, slots := 0, locals := 46 } : Room) (pcW D q (wX6 q a v) sz [.ref (a 99), .int x1, .int x2, .int x3]) (va_Qi (fun r w => r = res.1 ∧ w = res.2) (bW D q (wX6 q a v) sz (fun (uu : SV) => wX6 q a uu)) (va_A (wX6 q a v) sz)) 0 0 (va_A (wX6 q a v) sz) := by
  refine Met.ofW (cc := cX6_alter) (maxL := 5) (ret := (some .int)) (by decide) rfl ?_
  intro p e s m args below meth c s₁ B hml hv
  obtain ⟨rfl, hsz, hP0, hK, hD0⟩ := hv
  have hx := B.exec
  have hb := B.bytes
  have hr := B.returns
  have hW := mw_ws (atoms_spec (ws := mw yX6_alter cX6_alter 5 (some .int)) B.pre)
  have hown : s.vm.findClass RX6 = some m.cls := findClass_of_methodNamed B.named
  have hlocks := B.notSynchronized
  have X : Cx p s m [.ref (a 99), .int x1, .int x2, .int x3].toArray c cX6_alter 5 RX6 D q := ⟨hx, hb, hml, hown, hW, hK⟩
  subst hsz
  replace hD0 := hD0.self (sz := s.heap.size)
  have hS0 : va_S (va_A (wX6 q a v) s.heap.size) s.heap s.heap [] := va_S.rf
  have hl0 := lv_entry ([.ref (a 99), .int x1, .int x2, .int x3]) (n := 5) (Nat.le_of_ble_eq_true rfl)
  rw [lg_entry_eq]
  generalize (lg_sl ([.ref (a 99), .int x1, .int x2, .int x3]) ++ List.replicate (5 - (lg_sl ([.ref (a 99), .int x1, .int x2, .int x3])).length) Slot.unset).toArray = ls0 at hl0 ⊢
  have hl0 : lv_has ls0 5 [(0, .ref (a 99)), (1, .int x1), (2, .int x2), (3, .int x3)] := hl0
  unfold m_X6_alter at hm
  refine lv_iload_n hx hb dX6_alter_0 rfl (lv_at hl0 2 rfl) ?_
  have hJ29 : ∀ z29 : Int32, m_X6_alter_J29 v x1 x2 x3 z29 = some res → ∀ (H : Heap) (locs : List Loc), va_P D cls (wX6 q a v) H → va_D (va_A (wX6 q a v) s.heap.size) (wX6 q a v) → va_S (va_A (wX6 q a v) s.heap.size) s.heap H locs → ∀ ls : Array Slot, lv_has ls 5 [(0, .ref (a 99)), (1, .int x1), (2, .int x2), (3, .int x3)] → W p l e ((headSpec (mw yX6_alter cX6_alter 5 (some .int)) ({ frames := 2, cells := 0, slots := 0, locals := 46 } : Room)).room) s m [.ref (a 99), .int x1, .int x2, .int x3].toArray below meth c H locs 0 0 (MQ below (va_Qi (fun r w => r = res.1 ∧ w = res.2) (bW D q (wX6 q a v) s.heap.size (fun (uu : SV) => wX6 q a uu)) (va_A (wX6 q a v) s.heap.size)) [.ref (a 99), .int x1, .int x2, .int x3].toArray s 0 0 (va_A (wX6 q a v) s.heap.size)) (F0 m 29 ls [.int z29]) := by
    intro z29 hm H2 locs2 hP2 hD2 hS2 ls1 hl1
    unfold m_X6_alter_J29 at hm
    refine lv_istore (lv' := [(4, .int z29), (0, .ref (a 99)), (1, .int x1), (2, .int x2), (3, .int x3)]) hx hb dX6_alter_29 hl1 (by decide) rfl (fun ls3 hl3 => ?_)
    clear hl1
    refine lv_aload_n hx hb dX6_alter_31 rfl (lv_at hl3 1 rfl) ?_
    refine lv_aload_n hx hb dX6_alter_32 rfl (lv_at hl3 1 rfl) ?_
    refine lv_iload_n hx hb dX6_alter_33 rfl (lv_at hl3 2 rfl) ?_
    obtain ⟨y34, hy34, hm⟩ := bn hm
    refine cVRi (As := [.int x1]) (rest := [.ref (a 99)]) X hP2 hl3.1 (c_X6_isSitter l D q a v x1 y34 hy34) [0, 1, 2, 3, 4, 5, 6, 7, 8, 9, 10, 11, 12, 13, 14, 15, 16, 17] rfl 0 rfl rfl rfl k_1102 mX6_isSitter ⟨rfl, rfl⟩ ⟨Nat.le_of_ble_eq_true rfl, Nat.le_of_ble_eq_true rfl⟩ rfl rfl (Nat.le_of_ble_eq_true rfl) dX6_alter_34 ⟨Nat.zero_le _, Nat.zero_le _⟩ ?_
    refine lv_if_eq (tgt := 68) hx hb dX6_alter_37 (by decide) (fun c37 => ?_) (fun c37 => ?_)
    · replace hm := tp hm c37
      refine lv_iconst (v := (0 : Int32)) hx hb dX6_alter_68 (by decide) ?_
      refine lv_bipush (v := (36 : Int32)) hx hb dX6_alter_69 (by decide) ?_
      refine lv_iconst (v := (5 : Int32)) hx hb dX6_alter_71 (by decide) ?_
      refine lv_iload_n hx hb dX6_alter_72 rfl (lv_at hl3 3 rfl) ?_
      refine lv_imul hx hb dX6_alter_73 ?_
      refine lv_iadd hx hb dX6_alter_74 ?_
      refine lv_iload_n hx hb dX6_alter_75 rfl (lv_at hl3 2 rfl) ?_
      refine lv_iadd hx hb dX6_alter_76 ?_
      refine lv_iload_n hx hb dX6_alter_77 rfl (lv_at hl3 4 rfl) ?_
      refine lv_iconst (v := (0 : Int32)) hx hb dX6_alter_78 (by decide) ?_
      obtain ⟨y79, hy79, hm⟩ := bn hm
      refine cVWi (As := [.int (0 : Int32), .int (((36 : Int32) + ((5 : Int32) * x2)) + x1), .int x3, .int (0 : Int32)]) (rest := []) (Wn := fun (uu : SV) => wX6 q a uu) X hP2 hD2 hS2 (fun _ h => Or.inr h) hl3.1 (c_X6_puts l D q H2.size a v (0 : Int32) (((36 : Int32) + ((5 : Int32) * x2)) + x1) x3 (0 : Int32) y79 hy79) [0, 1, 2, 3, 4, 5, 6, 7, 8, 9, 10, 11, 12, 13, 14, 15, 16, 17] [] [0, 1, 2, 3, 4, 5, 6, 7, 8, 9, 10, 11, 12, 13, 14, 15, 16, 17] rfl (Wr := []) rfl (by decide) (by decide) (by decide) (by decide) (fun _ => rfl) 0 rfl rfl rfl k_1153 mX6_puts ⟨rfl, rfl⟩ ⟨Nat.le_of_ble_eq_true rfl, Nat.le_of_ble_eq_true rfl⟩ rfl rfl (Nat.le_of_ble_eq_true rfl) dX6_alter_79 ⟨Nat.zero_le _, Nat.zero_le _⟩ (fun H4 locs4 hP hD hS4 => ?_)
      have hP4 : va_P D cls (wX6 q a y79.2) H4 := hP
      have hD4 : va_D (va_A (wX6 q a v) s.heap.size) (wX6 q a y79.2) := hD
      clear hP hD hP2 hD2 hS2
      exact eWi (Wf := fun (uu : SV) => wX6 q a uu) (u := y79.2) X hr hlocks hP4 hD4 hS4 hm dX6_alter_82
    · replace hm := tn hm c37
      refine lv_iload_n hx hb dX6_alter_40 rfl (lv_at hl3 3 rfl) ?_
      refine lv_i2l hx hb dX6_alter_41 rfl ?_
      refine lv_lconst (v := (0 : Int64)) hx hb dX6_alter_42 (by decide) ?_
      refine lv_ldc2 (v := (3 : Int64)) hx hb hown (hW _ k_1152) dX6_alter_43 ?_
      obtain ⟨y46, hy46, hm⟩ := bn hm
      refine cSRi (As := [.long (x2.toInt64), .long (0 : Int64), .long (3 : Int64)]) (rest := [.ref (a 99)]) X hP2 hl3.1 (c_X6_in l D q (x2.toInt64) (0 : Int64) (3 : Int64) y46 hy46) [] rfl k_993 mX6_in ⟨rfl, rfl⟩ ⟨Nat.le_of_ble_eq_true rfl, Nat.le_of_ble_eq_true rfl⟩ rfl rfl (Nat.le_of_ble_eq_true rfl) dX6_alter_46 ⟨Nat.zero_le _, Nat.zero_le _⟩ ?_
      refine lv_if_eq (tgt := 68) hx hb dX6_alter_49 (by decide) (fun c49 => ?_) (fun c49 => ?_)
      · replace hm := tp hm c49
        refine lv_iconst (v := (0 : Int32)) hx hb dX6_alter_68 (by decide) ?_
        refine lv_bipush (v := (36 : Int32)) hx hb dX6_alter_69 (by decide) ?_
        refine lv_iconst (v := (5 : Int32)) hx hb dX6_alter_71 (by decide) ?_
        refine lv_iload_n hx hb dX6_alter_72 rfl (lv_at hl3 3 rfl) ?_
        refine lv_imul hx hb dX6_alter_73 ?_
        refine lv_iadd hx hb dX6_alter_74 ?_
        refine lv_iload_n hx hb dX6_alter_75 rfl (lv_at hl3 2 rfl) ?_
        refine lv_iadd hx hb dX6_alter_76 ?_
        refine lv_iload_n hx hb dX6_alter_77 rfl (lv_at hl3 4 rfl) ?_
        refine lv_iconst (v := (0 : Int32)) hx hb dX6_alter_78 (by decide) ?_
        obtain ⟨y79, hy79, hm⟩ := bn hm
        refine cVWi (As := [.int (0 : Int32), .int (((36 : Int32) + ((5 : Int32) * x2)) + x1), .int x3, .int (0 : Int32)]) (rest := []) (Wn := fun (uu : SV) => wX6 q a uu) X hP2 hD2 hS2 (fun _ h => Or.inr h) hl3.1 (c_X6_puts l D q H2.size a v (0 : Int32) (((36 : Int32) + ((5 : Int32) * x2)) + x1) x3 (0 : Int32) y79 hy79) [0, 1, 2, 3, 4, 5, 6, 7, 8, 9, 10, 11, 12, 13, 14, 15, 16, 17] [] [0, 1, 2, 3, 4, 5, 6, 7, 8, 9, 10, 11, 12, 13, 14, 15, 16, 17] rfl (Wr := []) rfl (by decide) (by decide) (by decide) (by decide) (fun _ => rfl) 0 rfl rfl rfl k_1153 mX6_puts ⟨rfl, rfl⟩ ⟨Nat.le_of_ble_eq_true rfl, Nat.le_of_ble_eq_true rfl⟩ rfl rfl (Nat.le_of_ble_eq_true rfl) dX6_alter_79 ⟨Nat.zero_le _, Nat.zero_le _⟩ (fun H5 locs5 hP hD hS5 => ?_)
        have hP5 : va_P D cls (wX6 q a y79.2) H5 := hP
        have hD5 : va_D (va_A (wX6 q a v) s.heap.size) (wX6 q a y79.2) := hD
        clear hP hD hP2 hD2 hS2
        exact eWi (Wf := fun (uu : SV) => wX6 q a uu) (u := y79.2) X hr hlocks hP5 hD5 hS5 hm dX6_alter_82
      · replace hm := tn hm c49
        refine lv_iload_n hx hb dX6_alter_52 rfl (lv_at hl3 4 rfl) ?_
        refine lv_i2l hx hb dX6_alter_53 rfl ?_
        refine lv_lconst (v := (0 : Int64)) hx hb dX6_alter_54 (by decide) ?_
        refine lv_iload hx hb dX6_alter_55 (lv_at hl3 0 rfl) ?_
        refine lv_i2l hx hb dX6_alter_57 rfl ?_
        obtain ⟨y58, hy58, hm⟩ := bn hm
        refine cSRi (As := [.long (x3.toInt64), .long (0 : Int64), .long (z29.toInt64)]) (rest := [.ref (a 99)]) X hP2 hl3.1 (c_X6_in l D q (x3.toInt64) (0 : Int64) (z29.toInt64) y58 hy58) [] rfl k_993 mX6_in ⟨rfl, rfl⟩ ⟨Nat.le_of_ble_eq_true rfl, Nat.le_of_ble_eq_true rfl⟩ rfl rfl (Nat.le_of_ble_eq_true rfl) dX6_alter_58 ⟨Nat.zero_le _, Nat.zero_le _⟩ ?_
        refine lv_if_eq (tgt := 68) hx hb dX6_alter_61 (by decide) (fun c61 => ?_) (fun c61 => ?_)
        · replace hm := tp hm c61
          refine lv_iconst (v := (0 : Int32)) hx hb dX6_alter_68 (by decide) ?_
          refine lv_bipush (v := (36 : Int32)) hx hb dX6_alter_69 (by decide) ?_
          refine lv_iconst (v := (5 : Int32)) hx hb dX6_alter_71 (by decide) ?_
          refine lv_iload_n hx hb dX6_alter_72 rfl (lv_at hl3 3 rfl) ?_
          refine lv_imul hx hb dX6_alter_73 ?_
          refine lv_iadd hx hb dX6_alter_74 ?_
          refine lv_iload_n hx hb dX6_alter_75 rfl (lv_at hl3 2 rfl) ?_
          refine lv_iadd hx hb dX6_alter_76 ?_
          refine lv_iload_n hx hb dX6_alter_77 rfl (lv_at hl3 4 rfl) ?_
          refine lv_iconst (v := (0 : Int32)) hx hb dX6_alter_78 (by decide) ?_
          obtain ⟨y79, hy79, hm⟩ := bn hm
          refine cVWi (As := [.int (0 : Int32), .int (((36 : Int32) + ((5 : Int32) * x2)) + x1), .int x3, .int (0 : Int32)]) (rest := []) (Wn := fun (uu : SV) => wX6 q a uu) X hP2 hD2 hS2 (fun _ h => Or.inr h) hl3.1 (c_X6_puts l D q H2.size a v (0 : Int32) (((36 : Int32) + ((5 : Int32) * x2)) + x1) x3 (0 : Int32) y79 hy79) [0, 1, 2, 3, 4, 5, 6, 7, 8, 9, 10, 11, 12, 13, 14, 15, 16, 17] [] [0, 1, 2, 3, 4, 5, 6, 7, 8, 9, 10, 11, 12, 13, 14, 15, 16, 17] rfl (Wr := []) rfl (by decide) (by decide) (by decide) (by decide) (fun _ => rfl) 0 rfl rfl rfl k_1153 mX6_puts ⟨rfl, rfl⟩ ⟨Nat.le_of_ble_eq_true rfl, Nat.le_of_ble_eq_true rfl⟩ rfl rfl (Nat.le_of_ble_eq_true rfl) dX6_alter_79 ⟨Nat.zero_le _, Nat.zero_le _⟩ (fun H6 locs6 hP hD hS6 => ?_)
          have hP6 : va_P D cls (wX6 q a y79.2) H6 := hP
          have hD6 : va_D (va_A (wX6 q a v) s.heap.size) (wX6 q a y79.2) := hD
          clear hP hD hP2 hD2 hS2
          exact eWi (Wf := fun (uu : SV) => wX6 q a uu) (u := y79.2) X hr hlocks hP6 hD6 hS6 hm dX6_alter_82
        · replace hm := tn hm c61
          refine lv_iconst (v := (1 : Int32)) hx hb dX6_alter_64 (by decide) ?_
          refine lv_goto (tgt := 69) hx hb dX6_alter_65 (by decide) ?_
          refine lv_bipush (v := (36 : Int32)) hx hb dX6_alter_69 (by decide) ?_
          refine lv_iconst (v := (5 : Int32)) hx hb dX6_alter_71 (by decide) ?_
          refine lv_iload_n hx hb dX6_alter_72 rfl (lv_at hl3 3 rfl) ?_
          refine lv_imul hx hb dX6_alter_73 ?_
          refine lv_iadd hx hb dX6_alter_74 ?_
          refine lv_iload_n hx hb dX6_alter_75 rfl (lv_at hl3 2 rfl) ?_
          refine lv_iadd hx hb dX6_alter_76 ?_
          refine lv_iload_n hx hb dX6_alter_77 rfl (lv_at hl3 4 rfl) ?_
          refine lv_iconst (v := (0 : Int32)) hx hb dX6_alter_78 (by decide) ?_
          obtain ⟨y79, hy79, hm⟩ := bn hm
          refine cVWi (As := [.int (1 : Int32), .int (((36 : Int32) + ((5 : Int32) * x2)) + x1), .int x3, .int (0 : Int32)]) (rest := []) (Wn := fun (uu : SV) => wX6 q a uu) X hP2 hD2 hS2 (fun _ h => Or.inr h) hl3.1 (c_X6_puts l D q H2.size a v (1 : Int32) (((36 : Int32) + ((5 : Int32) * x2)) + x1) x3 (0 : Int32) y79 hy79) [0, 1, 2, 3, 4, 5, 6, 7, 8, 9, 10, 11, 12, 13, 14, 15, 16, 17] [] [0, 1, 2, 3, 4, 5, 6, 7, 8, 9, 10, 11, 12, 13, 14, 15, 16, 17] rfl (Wr := []) rfl (by decide) (by decide) (by decide) (by decide) (fun _ => rfl) 0 rfl rfl rfl k_1153 mX6_puts ⟨rfl, rfl⟩ ⟨Nat.le_of_ble_eq_true rfl, Nat.le_of_ble_eq_true rfl⟩ rfl rfl (Nat.le_of_ble_eq_true rfl) dX6_alter_79 ⟨Nat.zero_le _, Nat.zero_le _⟩ (fun H7 locs7 hP hD hS7 => ?_)
          have hP7 : va_P D cls (wX6 q a y79.2) H7 := hP
          have hD7 : va_D (va_A (wX6 q a v) s.heap.size) (wX6 q a y79.2) := hD
          clear hP hD hP2 hD2 hS2
          exact eWi (Wf := fun (uu : SV) => wX6 q a uu) (u := y79.2) X hr hlocks hP7 hD7 hS7 hm dX6_alter_82
  refine lv_if_ne (tgt := 8) hx hb dX6_alter_1 (by decide) (fun c1 => ?_) (fun c1 => ?_)
  · replace hm := tn hm c1
    refine lv_iload_n hx hb dX6_alter_8 rfl (lv_at hl0 2 rfl) ?_
    refine lv_iconst (v := (1 : Int32)) hx hb dX6_alter_9 (by decide) ?_
    refine lv_icmp_ne (tgt := 17) hx hb dX6_alter_10 (by decide) (fun c10 => ?_) (fun c10 => ?_)
    · replace hm := tn hm c10
      refine lv_iload_n hx hb dX6_alter_17 rfl (lv_at hl0 2 rfl) ?_
      refine lv_iconst (v := (2 : Int32)) hx hb dX6_alter_18 (by decide) ?_
      refine lv_icmp_ne (tgt := 27) hx hb dX6_alter_19 (by decide) (fun c19 => ?_) (fun c19 => ?_)
      · replace hm := tn hm c19
        refine lv_bipush (v := (127 : Int32)) hx hb dX6_alter_27 (by decide) ?_
        exact hJ29 (127 : Int32) hm _ _ hP0 hD0 hS0 _ (lv_sub hl0 [0, 1, 2, 3] rfl)
      · replace hm := tp hm c19
        refine lv_bipush (v := (9 : Int32)) hx hb dX6_alter_22 (by decide) ?_
        refine lv_goto (tgt := 29) hx hb dX6_alter_24 (by decide) ?_
        exact hJ29 (9 : Int32) hm _ _ hP0 hD0 hS0 _ (lv_sub hl0 [0, 1, 2, 3] rfl)
    · replace hm := tp hm c10
      refine lv_iconst (v := (5 : Int32)) hx hb dX6_alter_13 (by decide) ?_
      refine lv_goto (tgt := 29) hx hb dX6_alter_14 (by decide) ?_
      exact hJ29 (5 : Int32) hm _ _ hP0 hD0 hS0 _ (lv_sub hl0 [0, 1, 2, 3] rfl)
  · replace hm := tp hm c1
    refine lv_iconst (v := (3 : Int32)) hx hb dX6_alter_4 (by decide) ?_
    refine lv_goto (tgt := 29) hx hb dX6_alter_5 (by decide) ?_
    exact hJ29 (3 : Int32) hm _ _ hP0 hD0 hS0 _ (lv_sub hl0 [0, 1, 2, 3] rfl)
noncomputable def m_X6_worth (v : SV) (x1 : Int32) (x2 : Int32) : Option (Int32 × SV) :=
  (m_X6_isPart v x1).bind (fun y3 => (if y3 = 0 then (m_X6_puts v (0 : Int32) x1 x2 (1 : Int32)).bind (fun y29 => some (y29.1, y29.2)) else (m_X6_in (x2.toInt64) (0 : Int64) (9 : Int64)).bind (fun y15 => (if y15 = 0 then (m_X6_puts v (0 : Int32) x1 x2 (1 : Int32)).bind (fun y29 => some (y29.1, y29.2)) else (m_X6_puts v (1 : Int32) x1 x2 (1 : Int32)).bind (fun y29 => some (y29.1, y29.2))))))
set_option maxHeartbeats 4000000 in
set_option maxRecDepth 100000 in
theorem c_X6_worth (l : Launch) (D : va_G) (q : Nat → ClassId) (sz : Nat) (a : Nat → Nat) (v : SV) (x1 : Int32) (x2 : Int32) (res : Int32 × SV) (hm : m_X6_worth v x1 x2 = some res) : Met l yX6_worth (mw yX6_worth cX6_worth 3 (some .int)) ({ frames := 2, cells := 0, slots := 0, locals := 46 } : Room) (pcW D q (wX6 q a v) sz [.ref (a 99), .int x1, .int x2]) (va_Qi (fun r w => r = res.1 ∧ w = res.2) (bW D q (wX6 q a v) sz (fun (uu : SV) => wX6 q a uu)) (va_A (wX6 q a v) sz)) 0 0 (va_A (wX6 q a v) sz) := by
  refine Met.ofW (cc := cX6_worth) (maxL := 3) (ret := (some .int)) (by decide) rfl ?_
  intro p e s m args below meth c s₁ B hml hv
  obtain ⟨rfl, hsz, hP0, hK, hD0⟩ := hv
  have hx := B.exec
  have hb := B.bytes
  have hr := B.returns
  have hW := mw_ws (atoms_spec (ws := mw yX6_worth cX6_worth 3 (some .int)) B.pre)
  have hown : s.vm.findClass RX6 = some m.cls := findClass_of_methodNamed B.named
  have hlocks := B.notSynchronized
  have X : Cx p s m [.ref (a 99), .int x1, .int x2].toArray c cX6_worth 3 RX6 D q := ⟨hx, hb, hml, hown, hW, hK⟩
  subst hsz
  replace hD0 := hD0.self (sz := s.heap.size)
  have hS0 : va_S (va_A (wX6 q a v) s.heap.size) s.heap s.heap [] := va_S.rf
  have hl0 := lv_entry ([.ref (a 99), .int x1, .int x2]) (n := 3) (Nat.le_of_ble_eq_true rfl)
  rw [lg_entry_eq]
  generalize (lg_sl ([.ref (a 99), .int x1, .int x2]) ++ List.replicate (3 - (lg_sl ([.ref (a 99), .int x1, .int x2])).length) Slot.unset).toArray = ls0 at hl0 ⊢
  have hl0 : lv_has ls0 3 [(0, .ref (a 99)), (1, .int x1), (2, .int x2)] := hl0
  unfold m_X6_worth at hm
  refine lv_aload_n hx hb dX6_worth_0 rfl (lv_at hl0 0 rfl) ?_
  refine lv_aload_n hx hb dX6_worth_1 rfl (lv_at hl0 0 rfl) ?_
  refine lv_iload_n hx hb dX6_worth_2 rfl (lv_at hl0 1 rfl) ?_
  obtain ⟨y3, hy3, hm⟩ := bn hm
  refine cVRi (As := [.int x1]) (rest := [.ref (a 99)]) X hP0 hl0.1 (c_X6_isPart l D q a v x1 y3 hy3) [0, 1, 2, 3, 4, 5, 6, 7, 8, 9, 10, 11, 12, 13, 14, 15, 16, 17] rfl 0 rfl rfl rfl k_1086 mX6_isPart ⟨rfl, rfl⟩ ⟨Nat.le_of_ble_eq_true rfl, Nat.le_of_ble_eq_true rfl⟩ rfl rfl (Nat.le_of_ble_eq_true rfl) dX6_worth_3 ⟨Nat.zero_le _, Nat.zero_le _⟩ ?_
  refine lv_if_eq (tgt := 25) hx hb dX6_worth_6 (by decide) (fun c6 => ?_) (fun c6 => ?_)
  · replace hm := tp hm c6
    refine lv_iconst (v := (0 : Int32)) hx hb dX6_worth_25 (by decide) ?_
    refine lv_iload_n hx hb dX6_worth_26 rfl (lv_at hl0 1 rfl) ?_
    refine lv_iload_n hx hb dX6_worth_27 rfl (lv_at hl0 2 rfl) ?_
    refine lv_iconst (v := (1 : Int32)) hx hb dX6_worth_28 (by decide) ?_
    obtain ⟨y29, hy29, hm⟩ := bn hm
    refine cVWi (As := [.int (0 : Int32), .int x1, .int x2, .int (1 : Int32)]) (rest := []) (Wn := fun (uu : SV) => wX6 q a uu) X hP0 hD0 hS0 (fun _ h => Or.inr h) hl0.1 (c_X6_puts l D q s.heap.size a v (0 : Int32) x1 x2 (1 : Int32) y29 hy29) [0, 1, 2, 3, 4, 5, 6, 7, 8, 9, 10, 11, 12, 13, 14, 15, 16, 17] [] [0, 1, 2, 3, 4, 5, 6, 7, 8, 9, 10, 11, 12, 13, 14, 15, 16, 17] rfl (Wr := []) rfl (by decide) (by decide) (by decide) (by decide) (fun _ => rfl) 0 rfl rfl rfl k_1153 mX6_puts ⟨rfl, rfl⟩ ⟨Nat.le_of_ble_eq_true rfl, Nat.le_of_ble_eq_true rfl⟩ rfl rfl (Nat.le_of_ble_eq_true rfl) dX6_worth_29 ⟨Nat.zero_le _, Nat.zero_le _⟩ (fun H1 locs1 hP hD hS1 => ?_)
    have hP1 : va_P D cls (wX6 q a y29.2) H1 := hP
    have hD1 : va_D (va_A (wX6 q a v) s.heap.size) (wX6 q a y29.2) := hD
    clear hP hD hP0 hD0 hS0
    exact eWi (Wf := fun (uu : SV) => wX6 q a uu) (u := y29.2) X hr hlocks hP1 hD1 hS1 hm dX6_worth_32
  · replace hm := tn hm c6
    refine lv_iload_n hx hb dX6_worth_9 rfl (lv_at hl0 2 rfl) ?_
    refine lv_i2l hx hb dX6_worth_10 rfl ?_
    refine lv_lconst (v := (0 : Int64)) hx hb dX6_worth_11 (by decide) ?_
    refine lv_ldc2 (v := (9 : Int64)) hx hb hown (hW _ k_1161) dX6_worth_12 ?_
    obtain ⟨y15, hy15, hm⟩ := bn hm
    refine cSRi (As := [.long (x2.toInt64), .long (0 : Int64), .long (9 : Int64)]) (rest := [.ref (a 99)]) X hP0 hl0.1 (c_X6_in l D q (x2.toInt64) (0 : Int64) (9 : Int64) y15 hy15) [] rfl k_993 mX6_in ⟨rfl, rfl⟩ ⟨Nat.le_of_ble_eq_true rfl, Nat.le_of_ble_eq_true rfl⟩ rfl rfl (Nat.le_of_ble_eq_true rfl) dX6_worth_15 ⟨Nat.zero_le _, Nat.zero_le _⟩ ?_
    refine lv_if_eq (tgt := 25) hx hb dX6_worth_18 (by decide) (fun c18 => ?_) (fun c18 => ?_)
    · replace hm := tp hm c18
      refine lv_iconst (v := (0 : Int32)) hx hb dX6_worth_25 (by decide) ?_
      refine lv_iload_n hx hb dX6_worth_26 rfl (lv_at hl0 1 rfl) ?_
      refine lv_iload_n hx hb dX6_worth_27 rfl (lv_at hl0 2 rfl) ?_
      refine lv_iconst (v := (1 : Int32)) hx hb dX6_worth_28 (by decide) ?_
      obtain ⟨y29, hy29, hm⟩ := bn hm
      refine cVWi (As := [.int (0 : Int32), .int x1, .int x2, .int (1 : Int32)]) (rest := []) (Wn := fun (uu : SV) => wX6 q a uu) X hP0 hD0 hS0 (fun _ h => Or.inr h) hl0.1 (c_X6_puts l D q s.heap.size a v (0 : Int32) x1 x2 (1 : Int32) y29 hy29) [0, 1, 2, 3, 4, 5, 6, 7, 8, 9, 10, 11, 12, 13, 14, 15, 16, 17] [] [0, 1, 2, 3, 4, 5, 6, 7, 8, 9, 10, 11, 12, 13, 14, 15, 16, 17] rfl (Wr := []) rfl (by decide) (by decide) (by decide) (by decide) (fun _ => rfl) 0 rfl rfl rfl k_1153 mX6_puts ⟨rfl, rfl⟩ ⟨Nat.le_of_ble_eq_true rfl, Nat.le_of_ble_eq_true rfl⟩ rfl rfl (Nat.le_of_ble_eq_true rfl) dX6_worth_29 ⟨Nat.zero_le _, Nat.zero_le _⟩ (fun H2 locs2 hP hD hS2 => ?_)
      have hP2 : va_P D cls (wX6 q a y29.2) H2 := hP
      have hD2 : va_D (va_A (wX6 q a v) s.heap.size) (wX6 q a y29.2) := hD
      clear hP hD hP0 hD0 hS0
      exact eWi (Wf := fun (uu : SV) => wX6 q a uu) (u := y29.2) X hr hlocks hP2 hD2 hS2 hm dX6_worth_32
    · replace hm := tn hm c18
      refine lv_iconst (v := (1 : Int32)) hx hb dX6_worth_21 (by decide) ?_
      refine lv_goto (tgt := 26) hx hb dX6_worth_22 (by decide) ?_
      refine lv_iload_n hx hb dX6_worth_26 rfl (lv_at hl0 1 rfl) ?_
      refine lv_iload_n hx hb dX6_worth_27 rfl (lv_at hl0 2 rfl) ?_
      refine lv_iconst (v := (1 : Int32)) hx hb dX6_worth_28 (by decide) ?_
      obtain ⟨y29, hy29, hm⟩ := bn hm
      refine cVWi (As := [.int (1 : Int32), .int x1, .int x2, .int (1 : Int32)]) (rest := []) (Wn := fun (uu : SV) => wX6 q a uu) X hP0 hD0 hS0 (fun _ h => Or.inr h) hl0.1 (c_X6_puts l D q s.heap.size a v (1 : Int32) x1 x2 (1 : Int32) y29 hy29) [0, 1, 2, 3, 4, 5, 6, 7, 8, 9, 10, 11, 12, 13, 14, 15, 16, 17] [] [0, 1, 2, 3, 4, 5, 6, 7, 8, 9, 10, 11, 12, 13, 14, 15, 16, 17] rfl (Wr := []) rfl (by decide) (by decide) (by decide) (by decide) (fun _ => rfl) 0 rfl rfl rfl k_1153 mX6_puts ⟨rfl, rfl⟩ ⟨Nat.le_of_ble_eq_true rfl, Nat.le_of_ble_eq_true rfl⟩ rfl rfl (Nat.le_of_ble_eq_true rfl) dX6_worth_29 ⟨Nat.zero_le _, Nat.zero_le _⟩ (fun H3 locs3 hP hD hS3 => ?_)
      have hP3 : va_P D cls (wX6 q a y29.2) H3 := hP
      have hD3 : va_D (va_A (wX6 q a v) s.heap.size) (wX6 q a y29.2) := hD
      clear hP hD hP0 hD0 hS0
      exact eWi (Wf := fun (uu : SV) => wX6 q a uu) (u := y29.2) X hr hlocks hP3 hD3 hS3 hm dX6_worth_32
noncomputable def m_X6_like (v : SV) (x1 : Int32) (x2 : Int32) : Option (Int32) :=
  (m_X6_isSitter v x1).bind (fun y2 => (if y2 = 0 then some (-1 : Int32) else (m_X6_isSitter v x2).bind (fun y10 => (if y10 = 0 then some (-1 : Int32) else (m_X6_areLike v x1 x2).bind (fun y23 => (if y23 = 0 then some (0 : Int32) else some (1 : Int32)))))))
set_option maxHeartbeats 4000000 in
set_option maxRecDepth 100000 in
theorem c_X6_like (l : Launch) (D : va_G) (q : Nat → ClassId) (a : Nat → Nat) (v : SV) (x1 : Int32) (x2 : Int32) (res : Int32) (hm : m_X6_like v x1 x2 = some res) : Met l yX6_like (mw yX6_like cX6_like 3 (some .int)) ({ frames := 3, cells := 0, slots := 0, locals := 72 } : Room) (pcR D q (wX6 q a v) [.ref (a 99), .int x1, .int x2]) (vp_Si (fun x => x = res)) 0 0 (fun _ => False) := by
  refine Met.ofW (cc := cX6_like) (maxL := 3) (ret := (some .int)) (by decide) rfl ?_
  intro p e s m args below meth c s₁ B hml hv
  obtain ⟨rfl, hP0, hK⟩ := hv
  have hx := B.exec
  have hb := B.bytes
  have hr := B.returns
  have hW := mw_ws (atoms_spec (ws := mw yX6_like cX6_like 3 (some .int)) B.pre)
  have hown : s.vm.findClass RX6 = some m.cls := findClass_of_methodNamed B.named
  have hlocks := B.notSynchronized
  have X : Cx p s m [.ref (a 99), .int x1, .int x2].toArray c cX6_like 3 RX6 D q := ⟨hx, hb, hml, hown, hW, hK⟩
  have hl0 := lv_entry ([.ref (a 99), .int x1, .int x2]) (n := 3) (Nat.le_of_ble_eq_true rfl)
  rw [lg_entry_eq]
  generalize (lg_sl ([.ref (a 99), .int x1, .int x2]) ++ List.replicate (3 - (lg_sl ([.ref (a 99), .int x1, .int x2])).length) Slot.unset).toArray = ls0 at hl0 ⊢
  have hl0 : lv_has ls0 3 [(0, .ref (a 99)), (1, .int x1), (2, .int x2)] := hl0
  unfold m_X6_like at hm
  refine lv_aload_n hx hb dX6_like_0 rfl (lv_at hl0 0 rfl) ?_
  refine lv_iload_n hx hb dX6_like_1 rfl (lv_at hl0 1 rfl) ?_
  obtain ⟨y2, hy2, hm⟩ := bn hm
  refine cVRi (As := [.int x1]) (rest := []) X hP0 hl0.1 (c_X6_isSitter l D q a v x1 y2 hy2) [0, 1, 2, 3, 4, 5, 6, 7, 8, 9, 10, 11, 12, 13, 14, 15, 16, 17] rfl 0 rfl rfl rfl k_1102 mX6_isSitter ⟨rfl, rfl⟩ ⟨Nat.le_of_ble_eq_true rfl, Nat.le_of_ble_eq_true rfl⟩ rfl rfl (Nat.le_of_ble_eq_true rfl) dX6_like_2 ⟨Nat.zero_le _, Nat.zero_le _⟩ ?_
  refine lv_if_eq (tgt := 16) hx hb dX6_like_5 (by decide) (fun c5 => ?_) (fun c5 => ?_)
  · replace hm := tp hm c5
    refine lv_iconst (v := (-1 : Int32)) hx hb dX6_like_16 (by decide) ?_
    refine lv_goto (tgt := 34) hx hb dX6_like_17 (by decide) ?_
    exact eRi  X hr hlocks hm dX6_like_34
  · replace hm := tn hm c5
    refine lv_aload_n hx hb dX6_like_8 rfl (lv_at hl0 0 rfl) ?_
    refine lv_iload_n hx hb dX6_like_9 rfl (lv_at hl0 2 rfl) ?_
    obtain ⟨y10, hy10, hm⟩ := bn hm
    refine cVRi (As := [.int x2]) (rest := []) X hP0 hl0.1 (c_X6_isSitter l D q a v x2 y10 hy10) [0, 1, 2, 3, 4, 5, 6, 7, 8, 9, 10, 11, 12, 13, 14, 15, 16, 17] rfl 0 rfl rfl rfl k_1102 mX6_isSitter ⟨rfl, rfl⟩ ⟨Nat.le_of_ble_eq_true rfl, Nat.le_of_ble_eq_true rfl⟩ rfl rfl (Nat.le_of_ble_eq_true rfl) dX6_like_10 ⟨Nat.zero_le _, Nat.zero_le _⟩ ?_
    refine lv_if_ne (tgt := 20) hx hb dX6_like_13 (by decide) (fun c13 => ?_) (fun c13 => ?_)
    · replace hm := tn hm c13
      refine lv_aload_n hx hb dX6_like_20 rfl (lv_at hl0 0 rfl) ?_
      refine lv_iload_n hx hb dX6_like_21 rfl (lv_at hl0 1 rfl) ?_
      refine lv_iload_n hx hb dX6_like_22 rfl (lv_at hl0 2 rfl) ?_
      obtain ⟨y23, hy23, hm⟩ := bn hm
      refine cVRi (As := [.int x1, .int x2]) (rest := []) X hP0 hl0.1 (c_X6_areLike l D q a v x1 x2 y23 hy23) [0, 1, 2, 3, 4, 5, 6, 7, 8, 9, 10, 11, 12, 13, 14, 15, 16, 17] rfl 0 rfl rfl rfl k_1119 mX6_areLike ⟨rfl, rfl⟩ ⟨Nat.le_of_ble_eq_true rfl, Nat.le_of_ble_eq_true rfl⟩ rfl rfl (Nat.le_of_ble_eq_true rfl) dX6_like_23 ⟨Nat.zero_le _, Nat.zero_le _⟩ ?_
      refine lv_if_eq (tgt := 33) hx hb dX6_like_26 (by decide) (fun c26 => ?_) (fun c26 => ?_)
      · replace hm := tp hm c26
        refine lv_iconst (v := (0 : Int32)) hx hb dX6_like_33 (by decide) ?_
        exact eRi  X hr hlocks hm dX6_like_34
      · replace hm := tn hm c26
        refine lv_iconst (v := (1 : Int32)) hx hb dX6_like_29 (by decide) ?_
        refine lv_goto (tgt := 34) hx hb dX6_like_30 (by decide) ?_
        exact eRi  X hr hlocks hm dX6_like_34
    · replace hm := tp hm c13
      refine lv_iconst (v := (-1 : Int32)) hx hb dX6_like_16 (by decide) ?_
      refine lv_goto (tgt := 34) hx hb dX6_like_17 (by decide) ?_
      exact eRi  X hr hlocks hm dX6_like_34
noncomputable def m_X6_paidOn_K13 (v : SV) (x2 : Int32) (z13 : Int32 × Int32) : Option (Int32) :=
  ck (inB ((36 : Int32) + x2) 315) ((if (v 50 ((((36 : Int32) + x2)).toNatClampNeg)) = (2 : Int32) then some (z13.1 / (2 : Int32)) else some z13.1))
noncomputable def m_X6_paidOn_L13 (v : SV) (y5 : Int32) (z13 : Int32 × Int32) : Option ((Int32 × Int32) ⊕ (Int32 × Int32)) :=
  (if (v 0 1) ≤ z13.2 then some (.inr (z13.1, z13.2)) else (if ((y5 >>> (z13.2 &&& 31)) &&& (1 : Int32)) = (1 : Int32) then (m_X6_worthOf v z13.2).bind (fun y37 => some (.inl ((z13.1 + y37), (z13.2 + (1 : Int32))))) else some (.inl ((z13.1 + (0 : Int32)), (z13.2 + (1 : Int32))))))
noncomputable def m_X6_paidOn (v : SV) (x1 : Int32) (x2 : Int32) : Option (Int32) :=
  (m_X6_shownOn v x1 x2).bind (fun y5 => (lpC (m_X6_paidOn_L13 v y5) ((0 : Int32), (0 : Int32))).bind (m_X6_paidOn_K13 v x2))
set_option maxHeartbeats 4000000 in
set_option maxRecDepth 100000 in
theorem c_X6_paidOn (l : Launch) (D : va_G) (q : Nat → ClassId) (a : Nat → Nat) (v : SV) (x1 : Int32) (x2 : Int32) (res : Int32) (hm : m_X6_paidOn v x1 x2 = some res) : Met l yX6_paidOn (mw yX6_paidOn cX6_paidOn 6 (some .int)) ({ frames := 2, cells := 0, slots := 0, locals := 47 } : Room) (pcR D q (wX6 q a v) [.ref (a 99), .int x1, .int x2]) (vp_Si (fun x => x = res)) 0 0 (fun _ => False) := by
  refine Met.ofW (cc := cX6_paidOn) (maxL := 6) (ret := (some .int)) (by decide) rfl ?_
  intro p e s m args below meth c s₁ B hml hv
  obtain ⟨rfl, hP0, hK⟩ := hv
  have hx := B.exec
  have hb := B.bytes
  have hr := B.returns
  have hW := mw_ws (atoms_spec (ws := mw yX6_paidOn cX6_paidOn 6 (some .int)) B.pre)
  have hown : s.vm.findClass RX6 = some m.cls := findClass_of_methodNamed B.named
  have hlocks := B.notSynchronized
  have X : Cx p s m [.ref (a 99), .int x1, .int x2].toArray c cX6_paidOn 6 RX6 D q := ⟨hx, hb, hml, hown, hW, hK⟩
  have hl0 := lv_entry ([.ref (a 99), .int x1, .int x2]) (n := 6) (Nat.le_of_ble_eq_true rfl)
  rw [lg_entry_eq]
  generalize (lg_sl ([.ref (a 99), .int x1, .int x2]) ++ List.replicate (6 - (lg_sl ([.ref (a 99), .int x1, .int x2])).length) Slot.unset).toArray = ls0 at hl0 ⊢
  have hl0 : lv_has ls0 6 [(0, .ref (a 99)), (1, .int x1), (2, .int x2)] := hl0
  unfold m_X6_paidOn at hm
  refine lv_iconst (v := (0 : Int32)) hx hb dX6_paidOn_0 (by decide) ?_
  refine lv_istore_n (lv' := [(3, .int (0 : Int32)), (0, .ref (a 99)), (1, .int x1), (2, .int x2)]) hx hb dX6_paidOn_1 rfl hl0 (by decide) rfl (fun ls1 hl1 => ?_)
  clear hl0
  refine lv_aload_n hx hb dX6_paidOn_2 rfl (lv_at hl1 1 rfl) ?_
  refine lv_iload_n hx hb dX6_paidOn_3 rfl (lv_at hl1 2 rfl) ?_
  refine lv_iload_n hx hb dX6_paidOn_4 rfl (lv_at hl1 3 rfl) ?_
  obtain ⟨y5, hy5, hm⟩ := bn hm
  refine cVRi (As := [.int x1, .int x2]) (rest := []) X hP0 hl1.1 (c_X6_shownOn l D q a v x1 x2 y5 hy5) [0, 1, 2, 3, 4, 5, 6, 7, 8, 9, 10, 11, 12, 13, 14, 15, 16, 17] rfl 0 rfl rfl rfl k_1106 mX6_shownOn ⟨rfl, rfl⟩ ⟨Nat.le_of_ble_eq_true rfl, Nat.le_of_ble_eq_true rfl⟩ rfl rfl (Nat.le_of_ble_eq_true rfl) dX6_paidOn_5 ⟨Nat.zero_le _, Nat.zero_le _⟩ ?_
  refine lv_istore (lv' := [(4, .int y5), (3, .int (0 : Int32)), (0, .ref (a 99)), (1, .int x1), (2, .int x2)]) hx hb dX6_paidOn_8 hl1 (by decide) rfl (fun ls2 hl2 => ?_)
  clear hl1
  refine lv_iconst (v := (0 : Int32)) hx hb dX6_paidOn_10 (by decide) ?_
  refine lv_istore (lv' := [(5, .int (0 : Int32)), (4, .int y5), (3, .int (0 : Int32)), (0, .ref (a 99)), (1, .int x1), (2, .int x2)]) hx hb dX6_paidOn_11 hl2 (by decide) rfl (fun ls3 hl3 => ?_)
  clear hl2
  obtain ⟨r13, hr13, hm⟩ := bn hm
  obtain ⟨n13, hn13⟩ := lpC_ex hr13
  have hE13 : ∀ z13 : Int32 × Int32, m_X6_paidOn_K13 v x2 z13 = some res → ∀ ls : Array Slot, lv_has ls 6 [(0, .ref (a 99)), (2, .int x2), (3, .int z13.1)] → W p l e ((headSpec (mw yX6_paidOn cX6_paidOn 6 (some .int)) ({ frames := 2, cells := 0, slots := 0, locals := 47 } : Room)).room) s m [.ref (a 99), .int x1, .int x2].toArray below meth c s.heap [] 0 0 (MQ below (vp_Si (fun x => x = res)) [.ref (a 99), .int x1, .int x2].toArray s 0 0 (fun _ => False)) (F0 m 52 ls []) := by
    intro z13 hm ls5 hl5
    unfold m_X6_paidOn_K13 at hm
    refine lv_aload_n hx hb dX6_paidOn_52 rfl (lv_at hl5 0 rfl) ?_
    refine va_get (D := D) (ci := 6) (v := .ref (a 0)) (C := RX6) (T := TX6) (N := 40) hx hb hW iX6 hown hK hP0 0 rfl rfl 0 (by decide) (hW _ k_867) (fun _ h => h) rfl dX6_paidOn_53 ?_
    refine lv_bipush (v := (36 : Int32)) hx hb dX6_paidOn_56 (by decide) ?_
    refine lv_iload_n hx hb dX6_paidOn_58 rfl (lv_at hl5 1 rfl) ?_
    refine lv_iadd hx hb dX6_paidOn_59 ?_
    obtain ⟨h6, hm⟩ := ckd hm
    refine va_iald (f := (v 50)) hx hb hK hP0 1 0 rfl rfl (inB_vp h6) dX6_paidOn_60 ?_
    refine lv_iconst (v := (2 : Int32)) hx hb dX6_paidOn_61 (by decide) ?_
    refine lv_icmp_ne (tgt := 71) hx hb dX6_paidOn_62 (by decide) (fun c62 => ?_) (fun c62 => ?_)
    · replace hm := tn hm c62
      refine lv_iload_n hx hb dX6_paidOn_71 rfl (lv_at hl5 2 rfl) ?_
      exact eRi  X hr hlocks hm dX6_paidOn_72
    · replace hm := tp hm c62
      refine lv_iload_n hx hb dX6_paidOn_65 rfl (lv_at hl5 2 rfl) ?_
      refine lv_iconst (v := (2 : Int32)) hx hb dX6_paidOn_66 (by decide) ?_
      refine lv_idiv hx hb dX6_paidOn_67 (by decide) ?_
      refine lv_goto (tgt := 72) hx hb dX6_paidOn_68 (by decide) ?_
      exact eRi  X hr hlocks hm dX6_paidOn_72
  have hL13 : ∀ (n : Nat) (z13 : Int32 × Int32) (ρ13 : Int32 × Int32), lpO (m_X6_paidOn_L13 v y5) n z13 = some ρ13 → (m_X6_paidOn_K13 v x2) ρ13 = some res → ∀ ls : Array Slot, lv_has ls 6 [(4, .int y5), (0, .ref (a 99)), (2, .int x2), (3, .int z13.1), (5, .int z13.2)] → W p l e ((headSpec (mw yX6_paidOn cX6_paidOn 6 (some .int)) ({ frames := 2, cells := 0, slots := 0, locals := 47 } : Room)).room) s m [.ref (a 99), .int x1, .int x2].toArray below meth c s.heap [] 0 0 (MQ below (vp_Si (fun x => x = res)) [.ref (a 99), .int x1, .int x2].toArray s 0 0 (fun _ => False)) (F0 m 13 ls []) := by
    intro n
    induction n with
    | zero => intro _ _ h; cases h
    | succ n ih13 =>
      intro z13 ρ13 hz13 hK13 ls4 hl4
      obtain ⟨t13, hm, hz13⟩ := bn hz13
      unfold m_X6_paidOn_L13 at hm
      refine lv_iload hx hb dX6_paidOn_13 (lv_at hl4 4 rfl) ?_
      refine lv_aload_n hx hb dX6_paidOn_15 rfl (lv_at hl4 1 rfl) ?_
      refine va_get (D := D) (ci := 6) (v := .int (v 0 1)) (C := RX6) (T := TX6) (N := 40) hx hb hW iX6 hown hK hP0 0 rfl rfl 1 (by decide) (hW _ k_868) (fun _ h => h) rfl dX6_paidOn_16 ?_
      refine lv_icmp_ge (tgt := 52) hx hb dX6_paidOn_19 (by decide) (fun c19 => ?_) (fun c19 => ?_)
      · replace hm := tp hm c19
        cases hm
        cases hz13
        exact hE13 (z13.1, z13.2) hK13 _ (lv_sub hl4 [1, 2, 3] rfl)
      · replace hm := tn hm c19
        refine lv_iload_n hx hb dX6_paidOn_22 rfl (lv_at hl4 3 rfl) ?_
        refine lv_iload hx hb dX6_paidOn_23 (lv_at hl4 0 rfl) ?_
        refine lv_iload hx hb dX6_paidOn_25 (lv_at hl4 4 rfl) ?_
        refine lv_ishr hx hb dX6_paidOn_27 ?_
        refine lv_iconst (v := (1 : Int32)) hx hb dX6_paidOn_28 (by decide) ?_
        refine lv_iand hx hb dX6_paidOn_29 ?_
        refine lv_iconst (v := (1 : Int32)) hx hb dX6_paidOn_30 (by decide) ?_
        refine lv_icmp_ne (tgt := 43) hx hb dX6_paidOn_31 (by decide) (fun c31 => ?_) (fun c31 => ?_)
        · replace hm := tn hm c31
          refine lv_iconst (v := (0 : Int32)) hx hb dX6_paidOn_43 (by decide) ?_
          refine lv_iadd hx hb dX6_paidOn_44 ?_
          refine lv_istore_n (lv' := [(3, .int (z13.1 + (0 : Int32))), (4, .int y5), (0, .ref (a 99)), (2, .int x2), (5, .int z13.2)]) hx hb dX6_paidOn_45 rfl hl4 (by decide) rfl (fun ls9 hl9 => ?_)
          clear hl4
          refine lv_iinc (v := (z13.2 + (1 : Int32))) (lv' := [(5, .int (z13.2 + (1 : Int32))), (3, .int (z13.1 + (0 : Int32))), (4, .int y5), (0, .ref (a 99)), (2, .int x2)]) hx hb dX6_paidOn_46 hl9 (k := 4) rfl rfl (by decide) rfl (fun ls10 hl10 => ?_)
          clear hl9
          refine lv_goto (tgt := 13) hx hb dX6_paidOn_49 (by decide) ?_
          cases hm
          exact ih13 ((z13.1 + (0 : Int32)), (z13.2 + (1 : Int32))) ρ13 hz13 hK13 _ (lv_sub hl10 [2, 3, 4, 1, 0] rfl)
        · replace hm := tp hm c31
          refine lv_aload_n hx hb dX6_paidOn_34 rfl (lv_at hl4 1 rfl) ?_
          refine lv_iload hx hb dX6_paidOn_35 (lv_at hl4 4 rfl) ?_
          obtain ⟨y37, hy37, hm⟩ := bn hm
          refine cVRi (As := [.int z13.2]) (rest := [.int z13.1]) X hP0 hl4.1 (c_X6_worthOf l D q a v z13.2 y37 hy37) [0, 1, 2, 3, 4, 5, 6, 7, 8, 9, 10, 11, 12, 13, 14, 15, 16, 17] rfl 0 rfl rfl rfl k_1090 mX6_worthOf ⟨rfl, rfl⟩ ⟨Nat.le_of_ble_eq_true rfl, Nat.le_of_ble_eq_true rfl⟩ rfl rfl (Nat.le_of_ble_eq_true rfl) dX6_paidOn_37 ⟨Nat.zero_le _, Nat.zero_le _⟩ ?_
          refine lv_goto (tgt := 44) hx hb dX6_paidOn_40 (by decide) ?_
          refine lv_iadd hx hb dX6_paidOn_44 ?_
          refine lv_istore_n (lv' := [(3, .int (z13.1 + y37)), (4, .int y5), (0, .ref (a 99)), (2, .int x2), (5, .int z13.2)]) hx hb dX6_paidOn_45 rfl hl4 (by decide) rfl (fun ls7 hl7 => ?_)
          clear hl4
          refine lv_iinc (v := (z13.2 + (1 : Int32))) (lv' := [(5, .int (z13.2 + (1 : Int32))), (3, .int (z13.1 + y37)), (4, .int y5), (0, .ref (a 99)), (2, .int x2)]) hx hb dX6_paidOn_46 hl7 (k := 4) rfl rfl (by decide) rfl (fun ls8 hl8 => ?_)
          clear hl7
          refine lv_goto (tgt := 13) hx hb dX6_paidOn_49 (by decide) ?_
          cases hm
          exact ih13 ((z13.1 + y37), (z13.2 + (1 : Int32))) ρ13 hz13 hK13 _ (lv_sub hl8 [2, 3, 4, 1, 0] rfl)
  exact hL13 n13 ((0 : Int32), (0 : Int32)) r13 hn13 hm _ (lv_sub hl3 [1, 3, 5, 2, 0] rfl)
noncomputable def m_X6_dayOn_K112 (x1 : Int32) (z26 : Int32 × Int32 × SV) (z112 : Int32 × SV) : Option (Int32 × SV) :=
  ck (inB (x1 + (61 : Int32)) 315) (ck (inB (x1 + (61 : Int32)) 315) (lett (up2 z112.2 50 (((x1 + (61 : Int32))).toNatClampNeg) ((z112.2 50 (((x1 + (61 : Int32))).toNatClampNeg)) + (1 : Int32))) (fun v18_ => some (z26.1, v18_))))
noncomputable def m_X6_dayOn_L112 (x1 : Int32) (z112 : Int32 × SV) : Option ((Int32 × SV) ⊕ (Int32 × SV)) :=
  (if (z112.2 0 2) ≤ z112.1 then some (.inr (z112.1, z112.2)) else ck (inB ((x1 + (56 : Int32)) + z112.1) 315) ((m_X6_paidOn z112.2 x1 z112.1).bind (fun y137 => (if ((z112.2 50 ((((x1 + (56 : Int32)) + z112.1)).toNatClampNeg)) + y137) ≤ (999 : Int32) then ck (inB ((x1 + (56 : Int32)) + z112.1) 315) (lett (up2 z112.2 50 ((((x1 + (56 : Int32)) + z112.1)).toNatClampNeg) ((z112.2 50 ((((x1 + (56 : Int32)) + z112.1)).toNatClampNeg)) + y137)) (fun v22_ => some (.inl ((z112.1 + (1 : Int32)), v22_)))) else ck (inB ((x1 + (56 : Int32)) + z112.1) 315) (lett (up2 z112.2 50 ((((x1 + (56 : Int32)) + z112.1)).toNatClampNeg) (999 : Int32)) (fun v25_ => some (.inl ((z112.1 + (1 : Int32)), v25_))))))))
noncomputable def m_X6_dayOn_K26 (x1 : Int32) (z26 : Int32 × Int32 × SV) : Option (Int32 × SV) :=
  (lpC (m_X6_dayOn_L112 x1) ((0 : Int32), z26.2.2)).bind (m_X6_dayOn_K112 x1 z26)
noncomputable def m_X6_dayOn_L26 (v : SV) (x1 : Int32) (z26 : Int32 × Int32 × SV) : Option ((Int32 × Int32 × SV) ⊕ (Int32 × Int32 × SV)) :=
  (if (z26.2.2 0 2) ≤ z26.2.1 then some (.inr (z26.1, z26.2.1, z26.2.2)) else (if z26.1 = 0 then ck (dvB (z26.2.2 0 2)) (ck (inB ((x1 + (51 : Int32)) + (((v 50 (((x1 + (62 : Int32))).toNatClampNeg)) + z26.2.1) - ((v 50 (((x1 + (62 : Int32))).toNatClampNeg)) + z26.2.1) / (z26.2.2 0 2) * (z26.2.2 0 2))) 315) ((if (((z26.2.2 50 ((((x1 + (51 : Int32)) + (((v 50 (((x1 + (62 : Int32))).toNatClampNeg)) + z26.2.1) - ((v 50 (((x1 + (62 : Int32))).toNatClampNeg)) + z26.2.1) / (z26.2.2 0 2) * (z26.2.2 0 2)))).toNatClampNeg)) >>> (((v 50 (((x1 + (61 : Int32))).toNatClampNeg)) - (v 50 (((x1 + (61 : Int32))).toNatClampNeg)) / (7 : Int32) * (7 : Int32)) &&& 31)) &&& (1 : Int32)) = (1 : Int32) then ck (dvB (z26.2.2 0 1)) ((m_X6_paintsOn z26.2.2 x1 ((v 50 (((x1 + (61 : Int32))).toNatClampNeg)) - (v 50 (((x1 + (61 : Int32))).toNatClampNeg)) / (z26.2.2 0 1) * (z26.2.2 0 1)) (((v 50 (((x1 + (62 : Int32))).toNatClampNeg)) + z26.2.1) - ((v 50 (((x1 + (62 : Int32))).toNatClampNeg)) + z26.2.1) / (z26.2.2 0 2) * (z26.2.2 0 2))).bind (fun y84 => ck (inB (x1 + (62 : Int32)) 315) (lett (up2 y84 50 (((x1 + (62 : Int32))).toNatClampNeg) ((((v 50 (((x1 + (62 : Int32))).toNatClampNeg)) + z26.2.1) - ((v 50 (((x1 + (62 : Int32))).toNatClampNeg)) + z26.2.1) / (z26.2.2 0 2) * (z26.2.2 0 2)) + (1 : Int32))) (fun v33_ => some (.inl ((1 : Int32), (z26.2.1 + (1 : Int32)), v33_)))))) else some (.inl (z26.1, (z26.2.1 + (1 : Int32)), z26.2.2))))) else some (.inr (z26.1, z26.2.1, z26.2.2))))
noncomputable def m_X6_dayOn (v : SV) (x1 : Int32) : Option (Int32 × SV) :=
  ck (inB (x1 + (61 : Int32)) 315) (ck (inB (x1 + (62 : Int32)) 315) ((lpC (m_X6_dayOn_L26 v x1) ((0 : Int32), (0 : Int32), v)).bind (m_X6_dayOn_K26 x1)))
set_option maxHeartbeats 4000000 in
set_option maxRecDepth 100000 in
theorem c_X6_dayOn (l : Launch) (D : va_G) (q : Nat → ClassId) (sz : Nat) (a : Nat → Nat) (v : SV) (x1 : Int32) (res : Int32 × SV) (hm : m_X6_dayOn v x1 = some res) : Met l yX6_dayOn (mw yX6_dayOn cX6_dayOn 7 (some .int)) ({ frames := 3, cells := 0, slots := 0, locals := 72 } : Room) (pcW D q (wX6 q a v) sz [.ref (a 99), .int x1]) (va_Qi (fun r w => r = res.1 ∧ w = res.2) (bW D q (wX6 q a v) sz (fun (uu : SV) => wX6 q a uu)) (va_A (wX6 q a v) sz)) 0 0 (va_A (wX6 q a v) sz) := by
  refine Met.ofW (cc := cX6_dayOn) (maxL := 7) (ret := (some .int)) (by decide) rfl ?_
  intro p e s m args below meth c s₁ B hml hv
  obtain ⟨rfl, hsz, hP0, hK, hD0⟩ := hv
  have hx := B.exec
  have hb := B.bytes
  have hr := B.returns
  have hW := mw_ws (atoms_spec (ws := mw yX6_dayOn cX6_dayOn 7 (some .int)) B.pre)
  have hown : s.vm.findClass RX6 = some m.cls := findClass_of_methodNamed B.named
  have hlocks := B.notSynchronized
  have X : Cx p s m [.ref (a 99), .int x1].toArray c cX6_dayOn 7 RX6 D q := ⟨hx, hb, hml, hown, hW, hK⟩
  subst hsz
  replace hD0 := hD0.self (sz := s.heap.size)
  have hS0 : va_S (va_A (wX6 q a v) s.heap.size) s.heap s.heap [] := va_S.rf
  have hl0 := lv_entry ([.ref (a 99), .int x1]) (n := 7) (Nat.le_of_ble_eq_true rfl)
  rw [lg_entry_eq]
  generalize (lg_sl ([.ref (a 99), .int x1]) ++ List.replicate (7 - (lg_sl ([.ref (a 99), .int x1])).length) Slot.unset).toArray = ls0 at hl0 ⊢
  have hl0 : lv_has ls0 7 [(0, .ref (a 99)), (1, .int x1)] := hl0
  unfold m_X6_dayOn at hm
  refine lv_aload_n hx hb dX6_dayOn_0 rfl (lv_at hl0 0 rfl) ?_
  refine va_get (D := D) (ci := 6) (v := .ref (a 0)) (C := RX6) (T := TX6) (N := 40) hx hb hW iX6 hown hK hP0 0 rfl rfl 0 (by decide) (hW _ k_867) (fun _ h => h) rfl dX6_dayOn_1 ?_
  refine lv_iload_n hx hb dX6_dayOn_4 rfl (lv_at hl0 1 rfl) ?_
  refine lv_bipush (v := (61 : Int32)) hx hb dX6_dayOn_5 (by decide) ?_
  refine lv_iadd hx hb dX6_dayOn_7 ?_
  obtain ⟨h1, hm⟩ := ckd hm
  refine va_iald (f := (v 50)) hx hb hK hP0 1 0 rfl rfl (inB_vp h1) dX6_dayOn_8 ?_
  refine lv_istore_n (lv' := [(2, .int (v 50 (((x1 + (61 : Int32))).toNatClampNeg))), (0, .ref (a 99)), (1, .int x1)]) hx hb dX6_dayOn_9 rfl hl0 (by decide) rfl (fun ls2 hl2 => ?_)
  clear hl0
  refine lv_aload_n hx hb dX6_dayOn_10 rfl (lv_at hl2 1 rfl) ?_
  refine va_get (D := D) (ci := 6) (v := .ref (a 0)) (C := RX6) (T := TX6) (N := 40) hx hb hW iX6 hown hK hP0 0 rfl rfl 0 (by decide) (hW _ k_867) (fun _ h => h) rfl dX6_dayOn_11 ?_
  refine lv_iload_n hx hb dX6_dayOn_14 rfl (lv_at hl2 2 rfl) ?_
  refine lv_bipush (v := (62 : Int32)) hx hb dX6_dayOn_15 (by decide) ?_
  refine lv_iadd hx hb dX6_dayOn_17 ?_
  obtain ⟨h3, hm⟩ := ckd hm
  refine va_iald (f := (v 50)) hx hb hK hP0 1 0 rfl rfl (inB_vp h3) dX6_dayOn_18 ?_
  refine lv_istore_n (lv' := [(3, .int (v 50 (((x1 + (62 : Int32))).toNatClampNeg))), (2, .int (v 50 (((x1 + (61 : Int32))).toNatClampNeg))), (0, .ref (a 99)), (1, .int x1)]) hx hb dX6_dayOn_19 rfl hl2 (by decide) rfl (fun ls4 hl4 => ?_)
  clear hl2
  refine lv_iconst (v := (0 : Int32)) hx hb dX6_dayOn_20 (by decide) ?_
  refine lv_istore (lv' := [(4, .int (0 : Int32)), (3, .int (v 50 (((x1 + (62 : Int32))).toNatClampNeg))), (2, .int (v 50 (((x1 + (61 : Int32))).toNatClampNeg))), (0, .ref (a 99)), (1, .int x1)]) hx hb dX6_dayOn_21 hl4 (by decide) rfl (fun ls5 hl5 => ?_)
  clear hl4
  refine lv_iconst (v := (0 : Int32)) hx hb dX6_dayOn_23 (by decide) ?_
  refine lv_istore (lv' := [(5, .int (0 : Int32)), (4, .int (0 : Int32)), (3, .int (v 50 (((x1 + (62 : Int32))).toNatClampNeg))), (2, .int (v 50 (((x1 + (61 : Int32))).toNatClampNeg))), (0, .ref (a 99)), (1, .int x1)]) hx hb dX6_dayOn_24 hl5 (by decide) rfl (fun ls6 hl6 => ?_)
  clear hl5
  obtain ⟨r26, hr26, hm⟩ := bn hm
  obtain ⟨n26, hn26⟩ := lpC_ex hr26
  have hE26 : ∀ z26 : Int32 × Int32 × SV, m_X6_dayOn_K26 x1 z26 = some res → ∀ (H : Heap) (locs : List Loc), va_P D cls (wX6 q a z26.2.2) H → va_D (va_A (wX6 q a v) s.heap.size) (wX6 q a z26.2.2) → va_S (va_A (wX6 q a v) s.heap.size) s.heap H locs → ∀ ls : Array Slot, lv_has ls 7 [(0, .ref (a 99)), (1, .int x1), (4, .int z26.1)] → W p l e ((headSpec (mw yX6_dayOn cX6_dayOn 7 (some .int)) ({ frames := 3, cells := 0, slots := 0, locals := 72 } : Room)).room) s m [.ref (a 99), .int x1].toArray below meth c H locs 0 0 (MQ below (va_Qi (fun r w => r = res.1 ∧ w = res.2) (bW D q (wX6 q a v) s.heap.size (fun (uu : SV) => wX6 q a uu)) (va_A (wX6 q a v) s.heap.size)) [.ref (a 99), .int x1].toArray s 0 0 (va_A (wX6 q a v) s.heap.size)) (F0 m 109 ls []) := by
    intro z26 hm H10 locs10 hP10 hD10 hS10 ls9 hl9
    unfold m_X6_dayOn_K26 at hm
    refine lv_iconst (v := (0 : Int32)) hx hb dX6_dayOn_109 (by decide) ?_
    refine lv_istore (lv' := [(5, .int (0 : Int32)), (0, .ref (a 99)), (1, .int x1), (4, .int z26.1)]) hx hb dX6_dayOn_110 hl9 (by decide) rfl (fun ls11 hl11 => ?_)
    clear hl9
    obtain ⟨r112, hr112, hm⟩ := bn hm
    obtain ⟨n112, hn112⟩ := lpC_ex hr112
    have hE112 : ∀ z112 : Int32 × SV, m_X6_dayOn_K112 x1 z26 z112 = some res → ∀ (H : Heap) (locs : List Loc), va_P D cls (wX6 q a z112.2) H → va_D (va_A (wX6 q a v) s.heap.size) (wX6 q a z112.2) → va_S (va_A (wX6 q a v) s.heap.size) s.heap H locs → ∀ ls : Array Slot, lv_has ls 7 [(0, .ref (a 99)), (1, .int x1), (4, .int z26.1)] → W p l e ((headSpec (mw yX6_dayOn cX6_dayOn 7 (some .int)) ({ frames := 3, cells := 0, slots := 0, locals := 72 } : Room)).room) s m [.ref (a 99), .int x1].toArray below meth c H locs 0 0 (MQ below (va_Qi (fun r w => r = res.1 ∧ w = res.2) (bW D q (wX6 q a v) s.heap.size (fun (uu : SV) => wX6 q a uu)) (va_A (wX6 q a v) s.heap.size)) [.ref (a 99), .int x1].toArray s 0 0 (va_A (wX6 q a v) s.heap.size)) (F0 m 177 ls []) := by
      intro z112 hm H15 locs15 hP15 hD15 hS15 ls14 hl14
      unfold m_X6_dayOn_K112 at hm
      refine lv_aload_n hx hb dX6_dayOn_177 rfl (lv_at hl14 0 rfl) ?_
      refine va_get (D := D) (ci := 6) (v := .ref (a 0)) (C := RX6) (T := TX6) (N := 40) hx hb hW iX6 hown hK hP15 0 rfl rfl 0 (by decide) (hW _ k_867) (fun _ h => h) rfl dX6_dayOn_178 ?_
      refine lv_iload_n hx hb dX6_dayOn_181 rfl (lv_at hl14 1 rfl) ?_
      refine lv_bipush (v := (61 : Int32)) hx hb dX6_dayOn_182 (by decide) ?_
      refine lv_iadd hx hb dX6_dayOn_184 ?_
      refine lv_dup2_11 hx hb dX6_dayOn_185 rfl rfl ?_
      obtain ⟨h16, hm⟩ := ckd hm
      refine va_iald (f := (z112.2 50)) hx hb hK hP15 1 0 rfl rfl (inB_vp h16) dX6_dayOn_186 ?_
      refine lv_iconst (v := (1 : Int32)) hx hb dX6_dayOn_187 (by decide) ?_
      refine lv_iadd hx hb dX6_dayOn_188 ?_
      obtain ⟨h17, hm⟩ := ckd hm
      refine va_iast (f := (z112.2 50)) hx hb hK hP15 hD15 hS15 1 0 rfl rfl (inB_vp h17) dX6_dayOn_189 (fun H18 locs18 hP hD hS18 => ?_)
      obtain ⟨v18_, e18, hm⟩ := ltd hm
      have hP18 : va_P D cls (wX6 q a v18_) H18 := by rw [e18]; exact hP
      have hD18 : va_D (va_A (wX6 q a v) s.heap.size) (wX6 q a v18_) := by rw [e18]; exact hD
      clear hP hD hP15 hD15 hS15
      refine lv_iload hx hb dX6_dayOn_190 (lv_at hl14 2 rfl) ?_
      exact eWi (Wf := fun (uu : SV) => wX6 q a uu) (u := v18_) X hr hlocks hP18 hD18 hS18 hm dX6_dayOn_192
    have hL112 : ∀ (n : Nat) (z112 : Int32 × SV) (ρ112 : Int32 × SV), lpO (m_X6_dayOn_L112 x1) n z112 = some ρ112 → (m_X6_dayOn_K112 x1 z26) ρ112 = some res → ∀ (H : Heap) (locs : List Loc), va_P D cls (wX6 q a z112.2) H → va_D (va_A (wX6 q a v) s.heap.size) (wX6 q a z112.2) → va_S (va_A (wX6 q a v) s.heap.size) s.heap H locs → ∀ ls : Array Slot, lv_has ls 7 [(0, .ref (a 99)), (1, .int x1), (4, .int z26.1), (5, .int z112.1)] → W p l e ((headSpec (mw yX6_dayOn cX6_dayOn 7 (some .int)) ({ frames := 3, cells := 0, slots := 0, locals := 72 } : Room)).room) s m [.ref (a 99), .int x1].toArray below meth c H locs 0 0 (MQ below (va_Qi (fun r w => r = res.1 ∧ w = res.2) (bW D q (wX6 q a v) s.heap.size (fun (uu : SV) => wX6 q a uu)) (va_A (wX6 q a v) s.heap.size)) [.ref (a 99), .int x1].toArray s 0 0 (va_A (wX6 q a v) s.heap.size)) (F0 m 112 ls []) := by
      intro n
      induction n with
      | zero => intro _ _ h; cases h
      | succ n ih112 =>
        intro z112 ρ112 hz112 hK112 H13 locs13 hP13 hD13 hS13 ls12 hl12
        obtain ⟨t112, hm, hz112⟩ := bn hz112
        unfold m_X6_dayOn_L112 at hm
        refine lv_iload hx hb dX6_dayOn_112 (lv_at hl12 3 rfl) ?_
        refine lv_aload_n hx hb dX6_dayOn_114 rfl (lv_at hl12 0 rfl) ?_
        refine va_get (D := D) (ci := 6) (v := .int (z112.2 0 2)) (C := RX6) (T := TX6) (N := 40) hx hb hW iX6 hown hK hP13 0 rfl rfl 2 (by decide) (hW _ k_869) (fun _ h => h) rfl dX6_dayOn_115 ?_
        refine lv_icmp_ge (tgt := 177) hx hb dX6_dayOn_118 (by decide) (fun c118 => ?_) (fun c118 => ?_)
        · replace hm := tp hm c118
          cases hm
          cases hz112
          exact hE112 (z112.1, z112.2) hK112 _ _ hP13 hD13 hS13 _ (lv_sub hl12 [0, 1, 2] rfl)
        · replace hm := tn hm c118
          refine lv_aload_n hx hb dX6_dayOn_121 rfl (lv_at hl12 0 rfl) ?_
          refine va_get (D := D) (ci := 6) (v := .ref (a 0)) (C := RX6) (T := TX6) (N := 40) hx hb hW iX6 hown hK hP13 0 rfl rfl 0 (by decide) (hW _ k_867) (fun _ h => h) rfl dX6_dayOn_122 ?_
          refine lv_iload_n hx hb dX6_dayOn_125 rfl (lv_at hl12 1 rfl) ?_
          refine lv_bipush (v := (56 : Int32)) hx hb dX6_dayOn_126 (by decide) ?_
          refine lv_iadd hx hb dX6_dayOn_128 ?_
          refine lv_iload hx hb dX6_dayOn_129 (lv_at hl12 3 rfl) ?_
          refine lv_iadd hx hb dX6_dayOn_131 ?_
          obtain ⟨h19, hm⟩ := ckd hm
          refine va_iald (f := (z112.2 50)) hx hb hK hP13 1 0 rfl rfl (inB_vp h19) dX6_dayOn_132 ?_
          refine lv_aload_n hx hb dX6_dayOn_133 rfl (lv_at hl12 0 rfl) ?_
          refine lv_iload_n hx hb dX6_dayOn_134 rfl (lv_at hl12 1 rfl) ?_
          refine lv_iload hx hb dX6_dayOn_135 (lv_at hl12 3 rfl) ?_
          obtain ⟨y137, hy137, hm⟩ := bn hm
          refine cVRi (As := [.int x1, .int z112.1]) (rest := [.int (z112.2 50 ((((x1 + (56 : Int32)) + z112.1)).toNatClampNeg))]) X hP13 hl12.1 (c_X6_paidOn l D q a z112.2 x1 z112.1 y137 hy137) [0, 1, 2, 3, 4, 5, 6, 7, 8, 9, 10, 11, 12, 13, 14, 15, 16, 17] rfl 0 rfl rfl rfl k_1175 mX6_paidOn ⟨rfl, rfl⟩ ⟨Nat.le_of_ble_eq_true rfl, Nat.le_of_ble_eq_true rfl⟩ rfl rfl (Nat.le_of_ble_eq_true rfl) dX6_dayOn_137 ⟨Nat.zero_le _, Nat.zero_le _⟩ ?_
          refine lv_iadd hx hb dX6_dayOn_140 ?_
          refine lv_istore (lv' := [(6, .int ((z112.2 50 ((((x1 + (56 : Int32)) + z112.1)).toNatClampNeg)) + y137)), (0, .ref (a 99)), (1, .int x1), (4, .int z26.1), (5, .int z112.1)]) hx hb dX6_dayOn_141 hl12 (by decide) rfl (fun ls20 hl20 => ?_)
          clear hl12
          refine lv_aload_n hx hb dX6_dayOn_143 rfl (lv_at hl20 1 rfl) ?_
          refine va_get (D := D) (ci := 6) (v := .ref (a 0)) (C := RX6) (T := TX6) (N := 40) hx hb hW iX6 hown hK hP13 0 rfl rfl 0 (by decide) (hW _ k_867) (fun _ h => h) rfl dX6_dayOn_144 ?_
          refine lv_iload_n hx hb dX6_dayOn_147 rfl (lv_at hl20 2 rfl) ?_
          refine lv_bipush (v := (56 : Int32)) hx hb dX6_dayOn_148 (by decide) ?_
          refine lv_iadd hx hb dX6_dayOn_150 ?_
          refine lv_iload hx hb dX6_dayOn_151 (lv_at hl20 4 rfl) ?_
          refine lv_iadd hx hb dX6_dayOn_153 ?_
          refine lv_iload hx hb dX6_dayOn_154 (lv_at hl20 0 rfl) ?_
          refine lv_sipush (v := (999 : Int32)) hx hb dX6_dayOn_156 (by decide) ?_
          refine lv_icmp_le (tgt := 168) hx hb dX6_dayOn_159 (by decide) (fun c159 => ?_) (fun c159 => ?_)
          · replace hm := tp hm c159
            refine lv_iload hx hb dX6_dayOn_168 (lv_at hl20 0 rfl) ?_
            obtain ⟨h21, hm⟩ := ckd hm
            refine va_iast (f := (z112.2 50)) hx hb hK hP13 hD13 hS13 1 0 rfl rfl (inB_vp h21) dX6_dayOn_170 (fun H22 locs22 hP hD hS22 => ?_)
            obtain ⟨v22_, e22, hm⟩ := ltd hm
            have hP22 : va_P D cls (wX6 q a v22_) H22 := by rw [e22]; exact hP
            have hD22 : va_D (va_A (wX6 q a v) s.heap.size) (wX6 q a v22_) := by rw [e22]; exact hD
            clear hP hD hP13 hD13 hS13
            refine lv_iinc (v := (z112.1 + (1 : Int32))) (lv' := [(5, .int (z112.1 + (1 : Int32))), (6, .int ((z112.2 50 ((((x1 + (56 : Int32)) + z112.1)).toNatClampNeg)) + y137)), (0, .ref (a 99)), (1, .int x1), (4, .int z26.1)]) hx hb dX6_dayOn_171 hl20 (k := 4) rfl rfl (by decide) rfl (fun ls23 hl23 => ?_)
            clear hl20
            refine lv_goto (tgt := 112) hx hb dX6_dayOn_174 (by decide) ?_
            cases hm
            exact ih112 ((z112.1 + (1 : Int32)), v22_) ρ112 hz112 hK112 _ _ hP22 hD22 hS22 _ (lv_sub hl23 [2, 3, 4, 0] rfl)
          · replace hm := tn hm c159
            refine lv_sipush (v := (999 : Int32)) hx hb dX6_dayOn_162 (by decide) ?_
            refine lv_goto (tgt := 170) hx hb dX6_dayOn_165 (by decide) ?_
            obtain ⟨h24, hm⟩ := ckd hm
            refine va_iast (f := (z112.2 50)) hx hb hK hP13 hD13 hS13 1 0 rfl rfl (inB_vp h24) dX6_dayOn_170 (fun H25 locs25 hP hD hS25 => ?_)
            obtain ⟨v25_, e25, hm⟩ := ltd hm
            have hP25 : va_P D cls (wX6 q a v25_) H25 := by rw [e25]; exact hP
            have hD25 : va_D (va_A (wX6 q a v) s.heap.size) (wX6 q a v25_) := by rw [e25]; exact hD
            clear hP hD hP13 hD13 hS13
            refine lv_iinc (v := (z112.1 + (1 : Int32))) (lv' := [(5, .int (z112.1 + (1 : Int32))), (6, .int ((z112.2 50 ((((x1 + (56 : Int32)) + z112.1)).toNatClampNeg)) + y137)), (0, .ref (a 99)), (1, .int x1), (4, .int z26.1)]) hx hb dX6_dayOn_171 hl20 (k := 4) rfl rfl (by decide) rfl (fun ls26 hl26 => ?_)
            clear hl20
            refine lv_goto (tgt := 112) hx hb dX6_dayOn_174 (by decide) ?_
            cases hm
            exact ih112 ((z112.1 + (1 : Int32)), v25_) ρ112 hz112 hK112 _ _ hP25 hD25 hS25 _ (lv_sub hl26 [2, 3, 4, 0] rfl)
    exact hL112 n112 ((0 : Int32), z26.2.2) r112 hn112 hm _ _ hP10 hD10 hS10 _ (lv_sub hl11 [1, 2, 3, 0] rfl)
  have hL26 : ∀ (n : Nat) (z26 : Int32 × Int32 × SV) (ρ26 : Int32 × Int32 × SV), lpO (m_X6_dayOn_L26 v x1) n z26 = some ρ26 → (m_X6_dayOn_K26 x1) ρ26 = some res → ∀ (H : Heap) (locs : List Loc), va_P D cls (wX6 q a z26.2.2) H → va_D (va_A (wX6 q a v) s.heap.size) (wX6 q a z26.2.2) → va_S (va_A (wX6 q a v) s.heap.size) s.heap H locs → ∀ ls : Array Slot, lv_has ls 7 [(3, .int (v 50 (((x1 + (62 : Int32))).toNatClampNeg))), (2, .int (v 50 (((x1 + (61 : Int32))).toNatClampNeg))), (0, .ref (a 99)), (1, .int x1), (4, .int z26.1), (5, .int z26.2.1)] → W p l e ((headSpec (mw yX6_dayOn cX6_dayOn 7 (some .int)) ({ frames := 3, cells := 0, slots := 0, locals := 72 } : Room)).room) s m [.ref (a 99), .int x1].toArray below meth c H locs 0 0 (MQ below (va_Qi (fun r w => r = res.1 ∧ w = res.2) (bW D q (wX6 q a v) s.heap.size (fun (uu : SV) => wX6 q a uu)) (va_A (wX6 q a v) s.heap.size)) [.ref (a 99), .int x1].toArray s 0 0 (va_A (wX6 q a v) s.heap.size)) (F0 m 26 ls []) := by
    intro n
    induction n with
    | zero => intro _ _ h; cases h
    | succ n ih26 =>
      intro z26 ρ26 hz26 hK26 H8 locs8 hP8 hD8 hS8 ls7 hl7
      obtain ⟨t26, hm, hz26⟩ := bn hz26
      unfold m_X6_dayOn_L26 at hm
      refine lv_iload hx hb dX6_dayOn_26 (lv_at hl7 5 rfl) ?_
      refine lv_aload_n hx hb dX6_dayOn_28 rfl (lv_at hl7 2 rfl) ?_
      refine va_get (D := D) (ci := 6) (v := .int (z26.2.2 0 2)) (C := RX6) (T := TX6) (N := 40) hx hb hW iX6 hown hK hP8 0 rfl rfl 2 (by decide) (hW _ k_869) (fun _ h => h) rfl dX6_dayOn_29 ?_
      refine lv_icmp_ge (tgt := 109) hx hb dX6_dayOn_32 (by decide) (fun c32 => ?_) (fun c32 => ?_)
      · replace hm := tp hm c32
        cases hm
        cases hz26
        exact hE26 (z26.1, z26.2.1, z26.2.2) hK26 _ _ hP8 hD8 hS8 _ (lv_sub hl7 [2, 3, 4] rfl)
      · replace hm := tn hm c32
        refine lv_iload hx hb dX6_dayOn_35 (lv_at hl7 4 rfl) ?_
        refine lv_if_ne (tgt := 109) hx hb dX6_dayOn_37 (by decide) (fun c37 => ?_) (fun c37 => ?_)
        · replace hm := tn hm c37
          cases hm
          cases hz26
          exact hE26 (z26.1, z26.2.1, z26.2.2) hK26 _ _ hP8 hD8 hS8 _ (lv_sub hl7 [2, 3, 4] rfl)
        · replace hm := tp hm c37
          refine lv_iload_n hx hb dX6_dayOn_40 rfl (lv_at hl7 0 rfl) ?_
          refine lv_iload hx hb dX6_dayOn_41 (lv_at hl7 5 rfl) ?_
          refine lv_iadd hx hb dX6_dayOn_43 ?_
          refine lv_aload_n hx hb dX6_dayOn_44 rfl (lv_at hl7 2 rfl) ?_
          refine va_get (D := D) (ci := 6) (v := .int (z26.2.2 0 2)) (C := RX6) (T := TX6) (N := 40) hx hb hW iX6 hown hK hP8 0 rfl rfl 2 (by decide) (hW _ k_869) (fun _ h => h) rfl dX6_dayOn_45 ?_
          obtain ⟨h27, hm⟩ := ckd hm
          refine lv_irem hx hb dX6_dayOn_48 (dv_ne h27) ?_
          refine lv_istore (lv' := [(6, .int (((v 50 (((x1 + (62 : Int32))).toNatClampNeg)) + z26.2.1) - ((v 50 (((x1 + (62 : Int32))).toNatClampNeg)) + z26.2.1) / (z26.2.2 0 2) * (z26.2.2 0 2))), (3, .int (v 50 (((x1 + (62 : Int32))).toNatClampNeg))), (2, .int (v 50 (((x1 + (61 : Int32))).toNatClampNeg))), (0, .ref (a 99)), (1, .int x1), (4, .int z26.1), (5, .int z26.2.1)]) hx hb dX6_dayOn_49 hl7 (by decide) rfl (fun ls28 hl28 => ?_)
          clear hl7
          refine lv_aload_n hx hb dX6_dayOn_51 rfl (lv_at hl28 3 rfl) ?_
          refine va_get (D := D) (ci := 6) (v := .ref (a 0)) (C := RX6) (T := TX6) (N := 40) hx hb hW iX6 hown hK hP8 0 rfl rfl 0 (by decide) (hW _ k_867) (fun _ h => h) rfl dX6_dayOn_52 ?_
          refine lv_iload_n hx hb dX6_dayOn_55 rfl (lv_at hl28 4 rfl) ?_
          refine lv_bipush (v := (51 : Int32)) hx hb dX6_dayOn_56 (by decide) ?_
          refine lv_iadd hx hb dX6_dayOn_58 ?_
          refine lv_iload hx hb dX6_dayOn_59 (lv_at hl28 0 rfl) ?_
          refine lv_iadd hx hb dX6_dayOn_61 ?_
          obtain ⟨h29, hm⟩ := ckd hm
          refine va_iald (f := (z26.2.2 50)) hx hb hK hP8 1 0 rfl rfl (inB_vp h29) dX6_dayOn_62 ?_
          refine lv_iload_n hx hb dX6_dayOn_63 rfl (lv_at hl28 2 rfl) ?_
          refine lv_bipush (v := (7 : Int32)) hx hb dX6_dayOn_64 (by decide) ?_
          refine lv_irem hx hb dX6_dayOn_66 (by decide) ?_
          refine lv_ishr hx hb dX6_dayOn_67 ?_
          refine lv_iconst (v := (1 : Int32)) hx hb dX6_dayOn_68 (by decide) ?_
          refine lv_iand hx hb dX6_dayOn_69 ?_
          refine lv_iconst (v := (1 : Int32)) hx hb dX6_dayOn_70 (by decide) ?_
          refine lv_icmp_ne (tgt := 103) hx hb dX6_dayOn_71 (by decide) (fun c71 => ?_) (fun c71 => ?_)
          · replace hm := tn hm c71
            refine lv_iinc (v := (z26.2.1 + (1 : Int32))) (lv' := [(5, .int (z26.2.1 + (1 : Int32))), (6, .int (((v 50 (((x1 + (62 : Int32))).toNatClampNeg)) + z26.2.1) - ((v 50 (((x1 + (62 : Int32))).toNatClampNeg)) + z26.2.1) / (z26.2.2 0 2) * (z26.2.2 0 2))), (3, .int (v 50 (((x1 + (62 : Int32))).toNatClampNeg))), (2, .int (v 50 (((x1 + (61 : Int32))).toNatClampNeg))), (0, .ref (a 99)), (1, .int x1), (4, .int z26.1)]) hx hb dX6_dayOn_103 hl28 (k := 6) rfl rfl (by decide) rfl (fun ls36 hl36 => ?_)
            clear hl28
            refine lv_goto (tgt := 26) hx hb dX6_dayOn_106 (by decide) ?_
            cases hm
            exact ih26 (z26.1, (z26.2.1 + (1 : Int32)), z26.2.2) ρ26 hz26 hK26 _ _ hP8 hD8 hS8 _ (lv_sub hl36 [2, 3, 4, 5, 6, 0] rfl)
          · replace hm := tp hm c71
            refine lv_aload_n hx hb dX6_dayOn_74 rfl (lv_at hl28 3 rfl) ?_
            refine lv_iload_n hx hb dX6_dayOn_75 rfl (lv_at hl28 4 rfl) ?_
            refine lv_iload_n hx hb dX6_dayOn_76 rfl (lv_at hl28 2 rfl) ?_
            refine lv_aload_n hx hb dX6_dayOn_77 rfl (lv_at hl28 3 rfl) ?_
            refine va_get (D := D) (ci := 6) (v := .int (z26.2.2 0 1)) (C := RX6) (T := TX6) (N := 40) hx hb hW iX6 hown hK hP8 0 rfl rfl 1 (by decide) (hW _ k_868) (fun _ h => h) rfl dX6_dayOn_78 ?_
            obtain ⟨h30, hm⟩ := ckd hm
            refine lv_irem hx hb dX6_dayOn_81 (dv_ne h30) ?_
            refine lv_iload hx hb dX6_dayOn_82 (lv_at hl28 0 rfl) ?_
            obtain ⟨y84, hy84, hm⟩ := bn hm
            refine cVWv (As := [.int x1, .int ((v 50 (((x1 + (61 : Int32))).toNatClampNeg)) - (v 50 (((x1 + (61 : Int32))).toNatClampNeg)) / (z26.2.2 0 1) * (z26.2.2 0 1)), .int (((v 50 (((x1 + (62 : Int32))).toNatClampNeg)) + z26.2.1) - ((v 50 (((x1 + (62 : Int32))).toNatClampNeg)) + z26.2.1) / (z26.2.2 0 2) * (z26.2.2 0 2))]) (rest := []) (Wn := fun (uu : SV) => wX6 q a uu) X hP8 hD8 hS8 (fun _ h => Or.inr h) hl28.1 (c_X6_paintsOn l D q H8.size a z26.2.2 x1 ((v 50 (((x1 + (61 : Int32))).toNatClampNeg)) - (v 50 (((x1 + (61 : Int32))).toNatClampNeg)) / (z26.2.2 0 1) * (z26.2.2 0 1)) (((v 50 (((x1 + (62 : Int32))).toNatClampNeg)) + z26.2.1) - ((v 50 (((x1 + (62 : Int32))).toNatClampNeg)) + z26.2.1) / (z26.2.2 0 2) * (z26.2.2 0 2)) y84 hy84) [0, 1, 2, 3, 4, 5, 6, 7, 8, 9, 10, 11, 12, 13, 14, 15, 16, 17] [] [0, 1, 2, 3, 4, 5, 6, 7, 8, 9, 10, 11, 12, 13, 14, 15, 16, 17] rfl (Wr := []) rfl (by decide) (by decide) (by decide) (by decide) (fun _ => rfl) 0 rfl rfl rfl k_1140 mX6_paintsOn ⟨rfl, rfl⟩ ⟨Nat.le_of_ble_eq_true rfl, Nat.le_of_ble_eq_true rfl⟩ rfl rfl (Nat.le_of_ble_eq_true rfl) dX6_dayOn_84 ⟨Nat.zero_le _, Nat.zero_le _⟩ (fun H31 locs31 hP hD hS31 => ?_)
            have hP31 : va_P D cls (wX6 q a y84) H31 := hP
            have hD31 : va_D (va_A (wX6 q a v) s.heap.size) (wX6 q a y84) := hD
            clear hP hD hP8 hD8 hS8
            refine lv_aload_n hx hb dX6_dayOn_87 rfl (lv_at hl28 3 rfl) ?_
            refine va_get (D := D) (ci := 6) (v := .ref (a 0)) (C := RX6) (T := TX6) (N := 40) hx hb hW iX6 hown hK hP31 0 rfl rfl 0 (by decide) (hW _ k_867) (fun _ h => h) rfl dX6_dayOn_88 ?_
            refine lv_iload_n hx hb dX6_dayOn_91 rfl (lv_at hl28 4 rfl) ?_
            refine lv_bipush (v := (62 : Int32)) hx hb dX6_dayOn_92 (by decide) ?_
            refine lv_iadd hx hb dX6_dayOn_94 ?_
            refine lv_iload hx hb dX6_dayOn_95 (lv_at hl28 0 rfl) ?_
            refine lv_iconst (v := (1 : Int32)) hx hb dX6_dayOn_97 (by decide) ?_
            refine lv_iadd hx hb dX6_dayOn_98 ?_
            obtain ⟨h32, hm⟩ := ckd hm
            refine va_iast (f := (y84 50)) hx hb hK hP31 hD31 hS31 1 0 rfl rfl (inB_vp h32) dX6_dayOn_99 (fun H33 locs33 hP hD hS33 => ?_)
            obtain ⟨v33_, e33, hm⟩ := ltd hm
            have hP33 : va_P D cls (wX6 q a v33_) H33 := by rw [e33]; exact hP
            have hD33 : va_D (va_A (wX6 q a v) s.heap.size) (wX6 q a v33_) := by rw [e33]; exact hD
            clear hP hD hP31 hD31 hS31
            refine lv_iconst (v := (1 : Int32)) hx hb dX6_dayOn_100 (by decide) ?_
            refine lv_istore (lv' := [(4, .int (1 : Int32)), (6, .int (((v 50 (((x1 + (62 : Int32))).toNatClampNeg)) + z26.2.1) - ((v 50 (((x1 + (62 : Int32))).toNatClampNeg)) + z26.2.1) / (z26.2.2 0 2) * (z26.2.2 0 2))), (3, .int (v 50 (((x1 + (62 : Int32))).toNatClampNeg))), (2, .int (v 50 (((x1 + (61 : Int32))).toNatClampNeg))), (0, .ref (a 99)), (1, .int x1), (5, .int z26.2.1)]) hx hb dX6_dayOn_101 hl28 (by decide) rfl (fun ls34 hl34 => ?_)
            clear hl28
            refine lv_iinc (v := (z26.2.1 + (1 : Int32))) (lv' := [(5, .int (z26.2.1 + (1 : Int32))), (4, .int (1 : Int32)), (6, .int (((v 50 (((x1 + (62 : Int32))).toNatClampNeg)) + z26.2.1) - ((v 50 (((x1 + (62 : Int32))).toNatClampNeg)) + z26.2.1) / (z26.2.2 0 2) * (z26.2.2 0 2))), (3, .int (v 50 (((x1 + (62 : Int32))).toNatClampNeg))), (2, .int (v 50 (((x1 + (61 : Int32))).toNatClampNeg))), (0, .ref (a 99)), (1, .int x1)]) hx hb dX6_dayOn_103 hl34 (k := 6) rfl rfl (by decide) rfl (fun ls35 hl35 => ?_)
            clear hl34
            refine lv_goto (tgt := 26) hx hb dX6_dayOn_106 (by decide) ?_
            cases hm
            exact ih26 ((1 : Int32), (z26.2.1 + (1 : Int32)), v33_) ρ26 hz26 hK26 _ _ hP33 hD33 hS33 _ (lv_sub hl35 [3, 4, 5, 6, 1, 0] rfl)
  exact hL26 n26 ((0 : Int32), (0 : Int32), v) r26 hn26 hm _ _ hP0 hD0 hS0 _ (lv_sub hl6 [2, 3, 4, 5, 1, 0] rfl)
noncomputable def m_X6_copies_K2 (z2 : Int32 × SV) : Option (SV) :=
  some z2.2
noncomputable def m_X6_copies_L2 (x1 : Int32) (x2 : Int32) (z2 : Int32 × SV) : Option ((Int32 × SV) ⊕ (Int32 × SV)) :=
  (if (63 : Int32) ≤ z2.1 then some (.inr (z2.1, z2.2)) else ck (inB (x1 + z2.1) 315) (ck (inB (x2 + z2.1) 315) (lett (up2 z2.2 50 (((x2 + z2.1)).toNatClampNeg) (z2.2 50 (((x1 + z2.1)).toNatClampNeg))) (fun v8_ => some (.inl ((z2.1 + (1 : Int32)), v8_))))))
noncomputable def m_X6_copies (v : SV) (x1 : Int32) (x2 : Int32) : Option (SV) :=
  (lpC (m_X6_copies_L2 x1 x2) ((0 : Int32), v)).bind (m_X6_copies_K2)
set_option maxHeartbeats 4000000 in
set_option maxRecDepth 100000 in
theorem c_X6_copies (l : Launch) (D : va_G) (q : Nat → ClassId) (sz : Nat) (a : Nat → Nat) (v : SV) (x1 : Int32) (x2 : Int32) (res : SV) (hm : m_X6_copies v x1 x2 = some res) : Met l yX6_copies (mw yX6_copies cX6_copies 4 none) ({ frames := 0, cells := 0, slots := 0, locals := 0 } : Room) (pcW D q (wX6 q a v) sz [.ref (a 99), .int x1, .int x2]) (va_Qv (fun w => w = res) (bW D q (wX6 q a v) sz (fun (uu : SV) => wX6 q a uu)) (va_A (wX6 q a v) sz)) 0 0 (va_A (wX6 q a v) sz) := by
  refine Met.ofW (cc := cX6_copies) (maxL := 4) (ret := none) (by decide) rfl ?_
  intro p e s m args below meth c s₁ B hml hv
  obtain ⟨rfl, hsz, hP0, hK, hD0⟩ := hv
  have hx := B.exec
  have hb := B.bytes
  have hr := B.returns
  have hW := mw_ws (atoms_spec (ws := mw yX6_copies cX6_copies 4 none) B.pre)
  have hown : s.vm.findClass RX6 = some m.cls := findClass_of_methodNamed B.named
  have hlocks := B.notSynchronized
  have X : Cx p s m [.ref (a 99), .int x1, .int x2].toArray c cX6_copies 4 RX6 D q := ⟨hx, hb, hml, hown, hW, hK⟩
  subst hsz
  replace hD0 := hD0.self (sz := s.heap.size)
  have hS0 : va_S (va_A (wX6 q a v) s.heap.size) s.heap s.heap [] := va_S.rf
  have hl0 := lv_entry ([.ref (a 99), .int x1, .int x2]) (n := 4) (Nat.le_of_ble_eq_true rfl)
  rw [lg_entry_eq]
  generalize (lg_sl ([.ref (a 99), .int x1, .int x2]) ++ List.replicate (4 - (lg_sl ([.ref (a 99), .int x1, .int x2])).length) Slot.unset).toArray = ls0 at hl0 ⊢
  have hl0 : lv_has ls0 4 [(0, .ref (a 99)), (1, .int x1), (2, .int x2)] := hl0
  unfold m_X6_copies at hm
  refine lv_iconst (v := (0 : Int32)) hx hb dX6_copies_0 (by decide) ?_
  refine lv_istore_n (lv' := [(3, .int (0 : Int32)), (0, .ref (a 99)), (1, .int x1), (2, .int x2)]) hx hb dX6_copies_1 rfl hl0 (by decide) rfl (fun ls1 hl1 => ?_)
  clear hl0
  obtain ⟨r2, hr2, hm⟩ := bn hm
  obtain ⟨n2, hn2⟩ := lpC_ex hr2
  have hE2 : ∀ z2 : Int32 × SV, m_X6_copies_K2 z2 = some res → ∀ (H : Heap) (locs : List Loc), va_P D cls (wX6 q a z2.2) H → va_D (va_A (wX6 q a v) s.heap.size) (wX6 q a z2.2) → va_S (va_A (wX6 q a v) s.heap.size) s.heap H locs → ∀ ls : Array Slot, lv_has ls 4 [] → W p l e ((headSpec (mw yX6_copies cX6_copies 4 none) ({ frames := 0, cells := 0, slots := 0, locals := 0 } : Room)).room) s m [.ref (a 99), .int x1, .int x2].toArray below meth c H locs 0 0 (MQ below (va_Qv (fun w => w = res) (bW D q (wX6 q a v) s.heap.size (fun (uu : SV) => wX6 q a uu)) (va_A (wX6 q a v) s.heap.size)) [.ref (a 99), .int x1, .int x2].toArray s 0 0 (va_A (wX6 q a v) s.heap.size)) (F0 m 30 ls []) := by
    intro z2 hm H5 locs5 hP5 hD5 hS5 ls4 hl4
    unfold m_X6_copies_K2 at hm
    exact eWv (Wf := fun (uu : SV) => wX6 q a uu) (u := z2.2) X hr hlocks hP5 hD5 hS5 hm dX6_copies_30
  have hL2 : ∀ (n : Nat) (z2 : Int32 × SV) (ρ2 : Int32 × SV), lpO (m_X6_copies_L2 x1 x2) n z2 = some ρ2 → (m_X6_copies_K2) ρ2 = some res → ∀ (H : Heap) (locs : List Loc), va_P D cls (wX6 q a z2.2) H → va_D (va_A (wX6 q a v) s.heap.size) (wX6 q a z2.2) → va_S (va_A (wX6 q a v) s.heap.size) s.heap H locs → ∀ ls : Array Slot, lv_has ls 4 [(0, .ref (a 99)), (1, .int x1), (2, .int x2), (3, .int z2.1)] → W p l e ((headSpec (mw yX6_copies cX6_copies 4 none) ({ frames := 0, cells := 0, slots := 0, locals := 0 } : Room)).room) s m [.ref (a 99), .int x1, .int x2].toArray below meth c H locs 0 0 (MQ below (va_Qv (fun w => w = res) (bW D q (wX6 q a v) s.heap.size (fun (uu : SV) => wX6 q a uu)) (va_A (wX6 q a v) s.heap.size)) [.ref (a 99), .int x1, .int x2].toArray s 0 0 (va_A (wX6 q a v) s.heap.size)) (F0 m 2 ls []) := by
    intro n
    induction n with
    | zero => intro _ _ h; cases h
    | succ n ih2 =>
      intro z2 ρ2 hz2 hK2 H3 locs3 hP3 hD3 hS3 ls2 hl2
      obtain ⟨t2, hm, hz2⟩ := bn hz2
      unfold m_X6_copies_L2 at hm
      refine lv_iload_n hx hb dX6_copies_2 rfl (lv_at hl2 3 rfl) ?_
      refine lv_bipush (v := (63 : Int32)) hx hb dX6_copies_3 (by decide) ?_
      refine lv_icmp_ge (tgt := 30) hx hb dX6_copies_5 (by decide) (fun c5 => ?_) (fun c5 => ?_)
      · replace hm := tp hm c5
        cases hm
        cases hz2
        exact hE2 (z2.1, z2.2) hK2 _ _ hP3 hD3 hS3 _ (lv_sub hl2 [] rfl)
      · replace hm := tn hm c5
        refine lv_aload_n hx hb dX6_copies_8 rfl (lv_at hl2 0 rfl) ?_
        refine va_get (D := D) (ci := 6) (v := .ref (a 0)) (C := RX6) (T := TX6) (N := 40) hx hb hW iX6 hown hK hP3 0 rfl rfl 0 (by decide) (hW _ k_867) (fun _ h => h) rfl dX6_copies_9 ?_
        refine lv_iload_n hx hb dX6_copies_12 rfl (lv_at hl2 2 rfl) ?_
        refine lv_iload_n hx hb dX6_copies_13 rfl (lv_at hl2 3 rfl) ?_
        refine lv_iadd hx hb dX6_copies_14 ?_
        refine lv_aload_n hx hb dX6_copies_15 rfl (lv_at hl2 0 rfl) ?_
        refine va_get (D := D) (ci := 6) (v := .ref (a 0)) (C := RX6) (T := TX6) (N := 40) hx hb hW iX6 hown hK hP3 0 rfl rfl 0 (by decide) (hW _ k_867) (fun _ h => h) rfl dX6_copies_16 ?_
        refine lv_iload_n hx hb dX6_copies_19 rfl (lv_at hl2 1 rfl) ?_
        refine lv_iload_n hx hb dX6_copies_20 rfl (lv_at hl2 3 rfl) ?_
        refine lv_iadd hx hb dX6_copies_21 ?_
        obtain ⟨h6, hm⟩ := ckd hm
        refine va_iald (f := (z2.2 50)) hx hb hK hP3 1 0 rfl rfl (inB_vp h6) dX6_copies_22 ?_
        obtain ⟨h7, hm⟩ := ckd hm
        refine va_iast (f := (z2.2 50)) hx hb hK hP3 hD3 hS3 1 0 rfl rfl (inB_vp h7) dX6_copies_23 (fun H8 locs8 hP hD hS8 => ?_)
        obtain ⟨v8_, e8, hm⟩ := ltd hm
        have hP8 : va_P D cls (wX6 q a v8_) H8 := by rw [e8]; exact hP
        have hD8 : va_D (va_A (wX6 q a v) s.heap.size) (wX6 q a v8_) := by rw [e8]; exact hD
        clear hP hD hP3 hD3 hS3
        refine lv_iinc (v := (z2.1 + (1 : Int32))) (lv' := [(3, .int (z2.1 + (1 : Int32))), (0, .ref (a 99)), (1, .int x1), (2, .int x2)]) hx hb dX6_copies_24 hl2 (k := 3) rfl rfl (by decide) rfl (fun ls9 hl9 => ?_)
        clear hl2
        refine lv_goto (tgt := 2) hx hb dX6_copies_27 (by decide) ?_
        cases hm
        exact ih2 ((z2.1 + (1 : Int32)), v8_) ρ2 hz2 hK2 _ _ hP8 hD8 hS8 _ (lv_sub hl9 [1, 2, 3, 0] rfl)
  exact hL2 n2 ((0 : Int32), v) r2 hn2 hm _ _ hP0 hD0 hS0 _ (lv_sub hl1 [1, 2, 3, 0] rfl)
noncomputable def m_X6_go_K36 (z36 : Int32 × Int32 × SV) : Option (Int32 × SV) :=
  some (z36.1, z36.2.2)
noncomputable def m_X6_go_L36 (x1 : Int32) (z36 : Int32 × Int32 × SV) : Option ((Int32 × Int32 × SV) ⊕ (Int32 × Int32 × SV)) :=
  (if x1 ≤ z36.2.1 then some (.inr (z36.1, z36.2.1, z36.2.2)) else (m_X6_dayOn z36.2.2 (0 : Int32)).bind (fun y44 => some (.inl ((z36.1 + y44.1), (z36.2.1 + (1 : Int32)), y44.2))))
noncomputable def m_X6_go (v : SV) (x1 : Int32) : Option (Int32 × SV) :=
  (m_X6_in (x1.toInt64) (0 : Int64) (60 : Int64)).bind (fun y6 => (if y6 = 0 then some ((-1 : Int32), v) else (if ((v 50 (Int32.toNatClampNeg (61 : Int32))) + x1) ≤ (999 : Int32) then (lpC (m_X6_go_L36 x1) ((0 : Int32), (0 : Int32), v)).bind (m_X6_go_K36) else some ((-3 : Int32), v))))
set_option maxHeartbeats 4000000 in
set_option maxRecDepth 100000 in
theorem c_X6_go (l : Launch) (D : va_G) (q : Nat → ClassId) (sz : Nat) (a : Nat → Nat) (v : SV) (x1 : Int32) (res : Int32 × SV) (hm : m_X6_go v x1 = some res) : Met l yX6_go (mw yX6_go cX6_go 4 (some .int)) ({ frames := 4, cells := 0, slots := 0, locals := 98 } : Room) (pcW D q (wX6 q a v) sz [.ref (a 99), .int x1]) (va_Qi (fun r w => r = res.1 ∧ w = res.2) (bW D q (wX6 q a v) sz (fun (uu : SV) => wX6 q a uu)) (va_A (wX6 q a v) sz)) 0 0 (va_A (wX6 q a v) sz) := by
  refine Met.ofW (cc := cX6_go) (maxL := 4) (ret := (some .int)) (by decide) rfl ?_
  intro p e s m args below meth c s₁ B hml hv
  obtain ⟨rfl, hsz, hP0, hK, hD0⟩ := hv
  have hx := B.exec
  have hb := B.bytes
  have hr := B.returns
  have hW := mw_ws (atoms_spec (ws := mw yX6_go cX6_go 4 (some .int)) B.pre)
  have hown : s.vm.findClass RX6 = some m.cls := findClass_of_methodNamed B.named
  have hlocks := B.notSynchronized
  have X : Cx p s m [.ref (a 99), .int x1].toArray c cX6_go 4 RX6 D q := ⟨hx, hb, hml, hown, hW, hK⟩
  subst hsz
  replace hD0 := hD0.self (sz := s.heap.size)
  have hS0 : va_S (va_A (wX6 q a v) s.heap.size) s.heap s.heap [] := va_S.rf
  have hl0 := lv_entry ([.ref (a 99), .int x1]) (n := 4) (Nat.le_of_ble_eq_true rfl)
  rw [lg_entry_eq]
  generalize (lg_sl ([.ref (a 99), .int x1]) ++ List.replicate (4 - (lg_sl ([.ref (a 99), .int x1])).length) Slot.unset).toArray = ls0 at hl0 ⊢
  have hl0 : lv_has ls0 4 [(0, .ref (a 99)), (1, .int x1)] := hl0
  unfold m_X6_go at hm
  refine lv_iload_n hx hb dX6_go_0 rfl (lv_at hl0 1 rfl) ?_
  refine lv_i2l hx hb dX6_go_1 rfl ?_
  refine lv_lconst (v := (0 : Int64)) hx hb dX6_go_2 (by decide) ?_
  refine lv_ldc2 (v := (60 : Int64)) hx hb hown (hW _ k_1170) dX6_go_3 ?_
  obtain ⟨y6, hy6, hm⟩ := bn hm
  refine cSRi (As := [.long (x1.toInt64), .long (0 : Int64), .long (60 : Int64)]) (rest := []) X hP0 hl0.1 (c_X6_in l D q (x1.toInt64) (0 : Int64) (60 : Int64) y6 hy6) [] rfl k_993 mX6_in ⟨rfl, rfl⟩ ⟨Nat.le_of_ble_eq_true rfl, Nat.le_of_ble_eq_true rfl⟩ rfl rfl (Nat.le_of_ble_eq_true rfl) dX6_go_6 ⟨Nat.zero_le _, Nat.zero_le _⟩ ?_
  refine lv_if_ne (tgt := 14) hx hb dX6_go_9 (by decide) (fun c9 => ?_) (fun c9 => ?_)
  · replace hm := tn hm c9
    refine lv_aload_n hx hb dX6_go_14 rfl (lv_at hl0 0 rfl) ?_
    refine va_get (D := D) (ci := 6) (v := .ref (a 0)) (C := RX6) (T := TX6) (N := 40) hx hb hW iX6 hown hK hP0 0 rfl rfl 0 (by decide) (hW _ k_867) (fun _ h => h) rfl dX6_go_15 ?_
    refine lv_bipush (v := (61 : Int32)) hx hb dX6_go_18 (by decide) ?_
    refine va_iald (f := (v 50)) hx hb hK hP0 1 0 rfl rfl (inB_vp (by decide)) dX6_go_20 ?_
    refine lv_iload_n hx hb dX6_go_21 rfl (lv_at hl0 1 rfl) ?_
    refine lv_iadd hx hb dX6_go_22 ?_
    refine lv_sipush (v := (999 : Int32)) hx hb dX6_go_23 (by decide) ?_
    refine lv_icmp_le (tgt := 32) hx hb dX6_go_26 (by decide) (fun c26 => ?_) (fun c26 => ?_)
    · replace hm := tp hm c26
      refine lv_iconst (v := (0 : Int32)) hx hb dX6_go_32 (by decide) ?_
      refine lv_istore_n (lv' := [(2, .int (0 : Int32)), (0, .ref (a 99)), (1, .int x1)]) hx hb dX6_go_33 rfl hl0 (by decide) rfl (fun ls1 hl1 => ?_)
      clear hl0
      refine lv_iconst (v := (0 : Int32)) hx hb dX6_go_34 (by decide) ?_
      refine lv_istore_n (lv' := [(3, .int (0 : Int32)), (2, .int (0 : Int32)), (0, .ref (a 99)), (1, .int x1)]) hx hb dX6_go_35 rfl hl1 (by decide) rfl (fun ls2 hl2 => ?_)
      clear hl1
      obtain ⟨r36, hr36, hm⟩ := bn hm
      obtain ⟨n36, hn36⟩ := lpC_ex hr36
      have hE36 : ∀ z36 : Int32 × Int32 × SV, m_X6_go_K36 z36 = some res → ∀ (H : Heap) (locs : List Loc), va_P D cls (wX6 q a z36.2.2) H → va_D (va_A (wX6 q a v) s.heap.size) (wX6 q a z36.2.2) → va_S (va_A (wX6 q a v) s.heap.size) s.heap H locs → ∀ ls : Array Slot, lv_has ls 4 [(2, .int z36.1)] → W p l e ((headSpec (mw yX6_go cX6_go 4 (some .int)) ({ frames := 4, cells := 0, slots := 0, locals := 98 } : Room)).room) s m [.ref (a 99), .int x1].toArray below meth c H locs 0 0 (MQ below (va_Qi (fun r w => r = res.1 ∧ w = res.2) (bW D q (wX6 q a v) s.heap.size (fun (uu : SV) => wX6 q a uu)) (va_A (wX6 q a v) s.heap.size)) [.ref (a 99), .int x1].toArray s 0 0 (va_A (wX6 q a v) s.heap.size)) (F0 m 55 ls []) := by
        intro z36 hm H6 locs6 hP6 hD6 hS6 ls5 hl5
        unfold m_X6_go_K36 at hm
        refine lv_iload_n hx hb dX6_go_55 rfl (lv_at hl5 0 rfl) ?_
        exact eWi (Wf := fun (uu : SV) => wX6 q a uu) (u := z36.2.2) X hr hlocks hP6 hD6 hS6 hm dX6_go_56
      have hL36 : ∀ (n : Nat) (z36 : Int32 × Int32 × SV) (ρ36 : Int32 × Int32 × SV), lpO (m_X6_go_L36 x1) n z36 = some ρ36 → (m_X6_go_K36) ρ36 = some res → ∀ (H : Heap) (locs : List Loc), va_P D cls (wX6 q a z36.2.2) H → va_D (va_A (wX6 q a v) s.heap.size) (wX6 q a z36.2.2) → va_S (va_A (wX6 q a v) s.heap.size) s.heap H locs → ∀ ls : Array Slot, lv_has ls 4 [(0, .ref (a 99)), (1, .int x1), (2, .int z36.1), (3, .int z36.2.1)] → W p l e ((headSpec (mw yX6_go cX6_go 4 (some .int)) ({ frames := 4, cells := 0, slots := 0, locals := 98 } : Room)).room) s m [.ref (a 99), .int x1].toArray below meth c H locs 0 0 (MQ below (va_Qi (fun r w => r = res.1 ∧ w = res.2) (bW D q (wX6 q a v) s.heap.size (fun (uu : SV) => wX6 q a uu)) (va_A (wX6 q a v) s.heap.size)) [.ref (a 99), .int x1].toArray s 0 0 (va_A (wX6 q a v) s.heap.size)) (F0 m 36 ls []) := by
        intro n
        induction n with
        | zero => intro _ _ h; cases h
        | succ n ih36 =>
          intro z36 ρ36 hz36 hK36 H4 locs4 hP4 hD4 hS4 ls3 hl3
          obtain ⟨t36, hm, hz36⟩ := bn hz36
          unfold m_X6_go_L36 at hm
          refine lv_iload_n hx hb dX6_go_36 rfl (lv_at hl3 3 rfl) ?_
          refine lv_iload_n hx hb dX6_go_37 rfl (lv_at hl3 1 rfl) ?_
          refine lv_icmp_ge (tgt := 55) hx hb dX6_go_38 (by decide) (fun c38 => ?_) (fun c38 => ?_)
          · replace hm := tp hm c38
            cases hm
            cases hz36
            exact hE36 (z36.1, z36.2.1, z36.2.2) hK36 _ _ hP4 hD4 hS4 _ (lv_sub hl3 [2] rfl)
          · replace hm := tn hm c38
            refine lv_iload_n hx hb dX6_go_41 rfl (lv_at hl3 2 rfl) ?_
            refine lv_aload_n hx hb dX6_go_42 rfl (lv_at hl3 0 rfl) ?_
            refine lv_iconst (v := (0 : Int32)) hx hb dX6_go_43 (by decide) ?_
            obtain ⟨y44, hy44, hm⟩ := bn hm
            refine cVWi (As := [.int (0 : Int32)]) (rest := [.int z36.1]) (Wn := fun (uu : SV) => wX6 q a uu) X hP4 hD4 hS4 (fun _ h => Or.inr h) hl3.1 (c_X6_dayOn l D q H4.size a z36.2.2 (0 : Int32) y44 hy44) [0, 1, 2, 3, 4, 5, 6, 7, 8, 9, 10, 11, 12, 13, 14, 15, 16, 17] [] [0, 1, 2, 3, 4, 5, 6, 7, 8, 9, 10, 11, 12, 13, 14, 15, 16, 17] rfl (Wr := []) rfl (by decide) (by decide) (by decide) (by decide) (fun _ => rfl) 0 rfl rfl rfl k_1171 mX6_dayOn ⟨rfl, rfl⟩ ⟨Nat.le_of_ble_eq_true rfl, Nat.le_of_ble_eq_true rfl⟩ rfl rfl (Nat.le_of_ble_eq_true rfl) dX6_go_44 ⟨Nat.zero_le _, Nat.zero_le _⟩ (fun H7 locs7 hP hD hS7 => ?_)
            have hP7 : va_P D cls (wX6 q a y44.2) H7 := hP
            have hD7 : va_D (va_A (wX6 q a v) s.heap.size) (wX6 q a y44.2) := hD
            clear hP hD hP4 hD4 hS4
            refine lv_iadd hx hb dX6_go_47 ?_
            refine lv_istore_n (lv' := [(2, .int (z36.1 + y44.1)), (0, .ref (a 99)), (1, .int x1), (3, .int z36.2.1)]) hx hb dX6_go_48 rfl hl3 (by decide) rfl (fun ls8 hl8 => ?_)
            clear hl3
            refine lv_iinc (v := (z36.2.1 + (1 : Int32))) (lv' := [(3, .int (z36.2.1 + (1 : Int32))), (2, .int (z36.1 + y44.1)), (0, .ref (a 99)), (1, .int x1)]) hx hb dX6_go_49 hl8 (k := 3) rfl rfl (by decide) rfl (fun ls9 hl9 => ?_)
            clear hl8
            refine lv_goto (tgt := 36) hx hb dX6_go_52 (by decide) ?_
            cases hm
            exact ih36 ((z36.1 + y44.1), (z36.2.1 + (1 : Int32)), y44.2) ρ36 hz36 hK36 _ _ hP7 hD7 hS7 _ (lv_sub hl9 [2, 3, 1, 0] rfl)
      exact hL36 n36 ((0 : Int32), (0 : Int32), v) r36 hn36 hm _ _ hP0 hD0 hS0 _ (lv_sub hl2 [2, 3, 1, 0] rfl)
    · replace hm := tn hm c26
      refine lv_bipush (v := (-3 : Int32)) hx hb dX6_go_29 (by decide) ?_
      exact eWi (Wf := fun (uu : SV) => wX6 q a uu) (u := v) X hr hlocks hP0 hD0 hS0 hm dX6_go_31
  · replace hm := tp hm c9
    refine lv_iconst (v := (-1 : Int32)) hx hb dX6_go_12 (by decide) ?_
    exact eWi (Wf := fun (uu : SV) => wX6 q a uu) (u := v) X hr hlocks hP0 hD0 hS0 hm dX6_go_13
noncomputable def m_X6_ahead_K43 (x1 : Int32) (x3 : Int32) (z43 : Int32 × SV) : Option (Int32 × SV) :=
  (if x3 = 0 then ck (inB ((308 : Int32) + x1) 315) (ck (inB ((56 : Int32) + x1) 315) (some (((z43.2 50 ((((308 : Int32) + x1)).toNatClampNeg)) - (z43.2 50 ((((56 : Int32) + x1)).toNatClampNeg))), z43.2))) else (m_X6_shownOn z43.2 (252 : Int32) x1).bind (fun y95 => some (y95, z43.2)))
noncomputable def m_X6_ahead_L43 (x2 : Int32) (z43 : Int32 × SV) : Option ((Int32 × SV) ⊕ (Int32 × SV)) :=
  (if x2 ≤ z43.1 then some (.inr (z43.1, z43.2)) else (m_X6_dayOn z43.2 (252 : Int32)).bind (fun y53 => some (.inl ((z43.1 + (1 : Int32)), y53.2))))
noncomputable def m_X6_ahead (v : SV) (x1 : Int32) (x2 : Int32) (x3 : Int32) : Option (Int32 × SV) :=
  (m_X6_isSitter v x1).bind (fun y2 => (if y2 = 0 then some ((-1 : Int32), v) else (m_X6_in (x2.toInt64) (0 : Int64) (60 : Int64)).bind (fun y14 => (if y14 = 0 then some ((-1 : Int32), v) else (m_X6_in (x3.toInt64) (0 : Int64) (1 : Int64)).bind (fun y24 => (if y24 = 0 then some ((-1 : Int32), v) else (m_X6_copies v (0 : Int32) (252 : Int32)).bind (fun y37 => (lpC (m_X6_ahead_L43 x2) ((0 : Int32), y37)).bind (m_X6_ahead_K43 x1 x3))))))))
set_option maxHeartbeats 4000000 in
set_option maxRecDepth 100000 in
theorem c_X6_ahead (l : Launch) (D : va_G) (q : Nat → ClassId) (sz : Nat) (a : Nat → Nat) (v : SV) (x1 : Int32) (x2 : Int32) (x3 : Int32) (res : Int32 × SV) (hm : m_X6_ahead v x1 x2 x3 = some res) : Met l yX6_ahead (mw yX6_ahead cX6_ahead 5 (some .int)) ({ frames := 4, cells := 0, slots := 0, locals := 98 } : Room) (pcW D q (wX6 q a v) sz [.ref (a 99), .int x1, .int x2, .int x3]) (va_Qi (fun r w => r = res.1 ∧ w = res.2) (bW D q (wX6 q a v) sz (fun (uu : SV) => wX6 q a uu)) (va_A (wX6 q a v) sz)) 0 0 (va_A (wX6 q a v) sz) := by
  refine Met.ofW (cc := cX6_ahead) (maxL := 5) (ret := (some .int)) (by decide) rfl ?_
  intro p e s m args below meth c s₁ B hml hv
  obtain ⟨rfl, hsz, hP0, hK, hD0⟩ := hv
  have hx := B.exec
  have hb := B.bytes
  have hr := B.returns
  have hW := mw_ws (atoms_spec (ws := mw yX6_ahead cX6_ahead 5 (some .int)) B.pre)
  have hown : s.vm.findClass RX6 = some m.cls := findClass_of_methodNamed B.named
  have hlocks := B.notSynchronized
  have X : Cx p s m [.ref (a 99), .int x1, .int x2, .int x3].toArray c cX6_ahead 5 RX6 D q := ⟨hx, hb, hml, hown, hW, hK⟩
  subst hsz
  replace hD0 := hD0.self (sz := s.heap.size)
  have hS0 : va_S (va_A (wX6 q a v) s.heap.size) s.heap s.heap [] := va_S.rf
  have hl0 := lv_entry ([.ref (a 99), .int x1, .int x2, .int x3]) (n := 5) (Nat.le_of_ble_eq_true rfl)
  rw [lg_entry_eq]
  generalize (lg_sl ([.ref (a 99), .int x1, .int x2, .int x3]) ++ List.replicate (5 - (lg_sl ([.ref (a 99), .int x1, .int x2, .int x3])).length) Slot.unset).toArray = ls0 at hl0 ⊢
  have hl0 : lv_has ls0 5 [(0, .ref (a 99)), (1, .int x1), (2, .int x2), (3, .int x3)] := hl0
  unfold m_X6_ahead at hm
  refine lv_aload_n hx hb dX6_ahead_0 rfl (lv_at hl0 0 rfl) ?_
  refine lv_iload_n hx hb dX6_ahead_1 rfl (lv_at hl0 1 rfl) ?_
  obtain ⟨y2, hy2, hm⟩ := bn hm
  refine cVRi (As := [.int x1]) (rest := []) X hP0 hl0.1 (c_X6_isSitter l D q a v x1 y2 hy2) [0, 1, 2, 3, 4, 5, 6, 7, 8, 9, 10, 11, 12, 13, 14, 15, 16, 17] rfl 0 rfl rfl rfl k_1102 mX6_isSitter ⟨rfl, rfl⟩ ⟨Nat.le_of_ble_eq_true rfl, Nat.le_of_ble_eq_true rfl⟩ rfl rfl (Nat.le_of_ble_eq_true rfl) dX6_ahead_2 ⟨Nat.zero_le _, Nat.zero_le _⟩ ?_
  refine lv_if_eq (tgt := 30) hx hb dX6_ahead_5 (by decide) (fun c5 => ?_) (fun c5 => ?_)
  · replace hm := tp hm c5
    refine lv_iconst (v := (-1 : Int32)) hx hb dX6_ahead_30 (by decide) ?_
    exact eWi (Wf := fun (uu : SV) => wX6 q a uu) (u := v) X hr hlocks hP0 hD0 hS0 hm dX6_ahead_31
  · replace hm := tn hm c5
    refine lv_iload_n hx hb dX6_ahead_8 rfl (lv_at hl0 2 rfl) ?_
    refine lv_i2l hx hb dX6_ahead_9 rfl ?_
    refine lv_lconst (v := (0 : Int64)) hx hb dX6_ahead_10 (by decide) ?_
    refine lv_ldc2 (v := (60 : Int64)) hx hb hown (hW _ k_1170) dX6_ahead_11 ?_
    obtain ⟨y14, hy14, hm⟩ := bn hm
    refine cSRi (As := [.long (x2.toInt64), .long (0 : Int64), .long (60 : Int64)]) (rest := []) X hP0 hl0.1 (c_X6_in l D q (x2.toInt64) (0 : Int64) (60 : Int64) y14 hy14) [] rfl k_993 mX6_in ⟨rfl, rfl⟩ ⟨Nat.le_of_ble_eq_true rfl, Nat.le_of_ble_eq_true rfl⟩ rfl rfl (Nat.le_of_ble_eq_true rfl) dX6_ahead_14 ⟨Nat.zero_le _, Nat.zero_le _⟩ ?_
    refine lv_if_eq (tgt := 30) hx hb dX6_ahead_17 (by decide) (fun c17 => ?_) (fun c17 => ?_)
    · replace hm := tp hm c17
      refine lv_iconst (v := (-1 : Int32)) hx hb dX6_ahead_30 (by decide) ?_
      exact eWi (Wf := fun (uu : SV) => wX6 q a uu) (u := v) X hr hlocks hP0 hD0 hS0 hm dX6_ahead_31
    · replace hm := tn hm c17
      refine lv_iload_n hx hb dX6_ahead_20 rfl (lv_at hl0 3 rfl) ?_
      refine lv_i2l hx hb dX6_ahead_21 rfl ?_
      refine lv_lconst (v := (0 : Int64)) hx hb dX6_ahead_22 (by decide) ?_
      refine lv_lconst (v := (1 : Int64)) hx hb dX6_ahead_23 (by decide) ?_
      obtain ⟨y24, hy24, hm⟩ := bn hm
      refine cSRi (As := [.long (x3.toInt64), .long (0 : Int64), .long (1 : Int64)]) (rest := []) X hP0 hl0.1 (c_X6_in l D q (x3.toInt64) (0 : Int64) (1 : Int64) y24 hy24) [] rfl k_993 mX6_in ⟨rfl, rfl⟩ ⟨Nat.le_of_ble_eq_true rfl, Nat.le_of_ble_eq_true rfl⟩ rfl rfl (Nat.le_of_ble_eq_true rfl) dX6_ahead_24 ⟨Nat.zero_le _, Nat.zero_le _⟩ ?_
      refine lv_if_ne (tgt := 32) hx hb dX6_ahead_27 (by decide) (fun c27 => ?_) (fun c27 => ?_)
      · replace hm := tn hm c27
        refine lv_aload_n hx hb dX6_ahead_32 rfl (lv_at hl0 0 rfl) ?_
        refine lv_iconst (v := (0 : Int32)) hx hb dX6_ahead_33 (by decide) ?_
        refine lv_sipush (v := (252 : Int32)) hx hb dX6_ahead_34 (by decide) ?_
        obtain ⟨y37, hy37, hm⟩ := bn hm
        refine cVWv (As := [.int (0 : Int32), .int (252 : Int32)]) (rest := []) (Wn := fun (uu : SV) => wX6 q a uu) X hP0 hD0 hS0 (fun _ h => Or.inr h) hl0.1 (c_X6_copies l D q s.heap.size a v (0 : Int32) (252 : Int32) y37 hy37) [0, 1, 2, 3, 4, 5, 6, 7, 8, 9, 10, 11, 12, 13, 14, 15, 16, 17] [] [0, 1, 2, 3, 4, 5, 6, 7, 8, 9, 10, 11, 12, 13, 14, 15, 16, 17] rfl (Wr := []) rfl (by decide) (by decide) (by decide) (by decide) (fun _ => rfl) 0 rfl rfl rfl k_1183 mX6_copies ⟨rfl, rfl⟩ ⟨Nat.le_of_ble_eq_true rfl, Nat.le_of_ble_eq_true rfl⟩ rfl rfl (Nat.le_of_ble_eq_true rfl) dX6_ahead_37 ⟨Nat.zero_le _, Nat.zero_le _⟩ (fun H1 locs1 hP hD hS1 => ?_)
        have hP1 : va_P D cls (wX6 q a y37) H1 := hP
        have hD1 : va_D (va_A (wX6 q a v) s.heap.size) (wX6 q a y37) := hD
        clear hP hD hP0 hD0 hS0
        refine lv_iconst (v := (0 : Int32)) hx hb dX6_ahead_40 (by decide) ?_
        refine lv_istore (lv' := [(4, .int (0 : Int32)), (0, .ref (a 99)), (1, .int x1), (2, .int x2), (3, .int x3)]) hx hb dX6_ahead_41 hl0 (by decide) rfl (fun ls2 hl2 => ?_)
        clear hl0
        obtain ⟨r43, hr43, hm⟩ := bn hm
        obtain ⟨n43, hn43⟩ := lpC_ex hr43
        have hE43 : ∀ z43 : Int32 × SV, m_X6_ahead_K43 x1 x3 z43 = some res → ∀ (H : Heap) (locs : List Loc), va_P D cls (wX6 q a z43.2) H → va_D (va_A (wX6 q a v) s.heap.size) (wX6 q a z43.2) → va_S (va_A (wX6 q a v) s.heap.size) s.heap H locs → ∀ ls : Array Slot, lv_has ls 5 [(0, .ref (a 99)), (1, .int x1), (3, .int x3)] → W p l e ((headSpec (mw yX6_ahead cX6_ahead 5 (some .int)) ({ frames := 4, cells := 0, slots := 0, locals := 98 } : Room)).room) s m [.ref (a 99), .int x1, .int x2, .int x3].toArray below meth c H locs 0 0 (MQ below (va_Qi (fun r w => r = res.1 ∧ w = res.2) (bW D q (wX6 q a v) s.heap.size (fun (uu : SV) => wX6 q a uu)) (va_A (wX6 q a v) s.heap.size)) [.ref (a 99), .int x1, .int x2, .int x3].toArray s 0 0 (va_A (wX6 q a v) s.heap.size)) (F0 m 63 ls []) := by
          intro z43 hm H6 locs6 hP6 hD6 hS6 ls5 hl5
          unfold m_X6_ahead_K43 at hm
          refine lv_iload_n hx hb dX6_ahead_63 rfl (lv_at hl5 2 rfl) ?_
          refine lv_if_ne (tgt := 90) hx hb dX6_ahead_64 (by decide) (fun c64 => ?_) (fun c64 => ?_)
          · replace hm := tn hm c64
            refine lv_aload_n hx hb dX6_ahead_90 rfl (lv_at hl5 0 rfl) ?_
            refine lv_sipush (v := (252 : Int32)) hx hb dX6_ahead_91 (by decide) ?_
            refine lv_iload_n hx hb dX6_ahead_94 rfl (lv_at hl5 1 rfl) ?_
            obtain ⟨y95, hy95, hm⟩ := bn hm
            refine cVRi (As := [.int (252 : Int32), .int x1]) (rest := []) X hP6 hl5.1 (c_X6_shownOn l D q a z43.2 (252 : Int32) x1 y95 hy95) [0, 1, 2, 3, 4, 5, 6, 7, 8, 9, 10, 11, 12, 13, 14, 15, 16, 17] rfl 0 rfl rfl rfl k_1106 mX6_shownOn ⟨rfl, rfl⟩ ⟨Nat.le_of_ble_eq_true rfl, Nat.le_of_ble_eq_true rfl⟩ rfl rfl (Nat.le_of_ble_eq_true rfl) dX6_ahead_95 ⟨Nat.zero_le _, Nat.zero_le _⟩ ?_
            exact eWi (Wf := fun (uu : SV) => wX6 q a uu) (u := z43.2) X hr hlocks hP6 hD6 hS6 hm dX6_ahead_98
          · replace hm := tp hm c64
            refine lv_aload_n hx hb dX6_ahead_67 rfl (lv_at hl5 0 rfl) ?_
            refine va_get (D := D) (ci := 6) (v := .ref (a 0)) (C := RX6) (T := TX6) (N := 40) hx hb hW iX6 hown hK hP6 0 rfl rfl 0 (by decide) (hW _ k_867) (fun _ h => h) rfl dX6_ahead_68 ?_
            refine lv_sipush (v := (308 : Int32)) hx hb dX6_ahead_71 (by decide) ?_
            refine lv_iload_n hx hb dX6_ahead_74 rfl (lv_at hl5 1 rfl) ?_
            refine lv_iadd hx hb dX6_ahead_75 ?_
            obtain ⟨h7, hm⟩ := ckd hm
            refine va_iald (f := (z43.2 50)) hx hb hK hP6 1 0 rfl rfl (inB_vp h7) dX6_ahead_76 ?_
            refine lv_aload_n hx hb dX6_ahead_77 rfl (lv_at hl5 0 rfl) ?_
            refine va_get (D := D) (ci := 6) (v := .ref (a 0)) (C := RX6) (T := TX6) (N := 40) hx hb hW iX6 hown hK hP6 0 rfl rfl 0 (by decide) (hW _ k_867) (fun _ h => h) rfl dX6_ahead_78 ?_
            refine lv_bipush (v := (56 : Int32)) hx hb dX6_ahead_81 (by decide) ?_
            refine lv_iload_n hx hb dX6_ahead_83 rfl (lv_at hl5 1 rfl) ?_
            refine lv_iadd hx hb dX6_ahead_84 ?_
            obtain ⟨h8, hm⟩ := ckd hm
            refine va_iald (f := (z43.2 50)) hx hb hK hP6 1 0 rfl rfl (inB_vp h8) dX6_ahead_85 ?_
            refine lv_isub hx hb dX6_ahead_86 ?_
            refine lv_goto (tgt := 98) hx hb dX6_ahead_87 (by decide) ?_
            exact eWi (Wf := fun (uu : SV) => wX6 q a uu) (u := z43.2) X hr hlocks hP6 hD6 hS6 hm dX6_ahead_98
        have hL43 : ∀ (n : Nat) (z43 : Int32 × SV) (ρ43 : Int32 × SV), lpO (m_X6_ahead_L43 x2) n z43 = some ρ43 → (m_X6_ahead_K43 x1 x3) ρ43 = some res → ∀ (H : Heap) (locs : List Loc), va_P D cls (wX6 q a z43.2) H → va_D (va_A (wX6 q a v) s.heap.size) (wX6 q a z43.2) → va_S (va_A (wX6 q a v) s.heap.size) s.heap H locs → ∀ ls : Array Slot, lv_has ls 5 [(0, .ref (a 99)), (1, .int x1), (2, .int x2), (3, .int x3), (4, .int z43.1)] → W p l e ((headSpec (mw yX6_ahead cX6_ahead 5 (some .int)) ({ frames := 4, cells := 0, slots := 0, locals := 98 } : Room)).room) s m [.ref (a 99), .int x1, .int x2, .int x3].toArray below meth c H locs 0 0 (MQ below (va_Qi (fun r w => r = res.1 ∧ w = res.2) (bW D q (wX6 q a v) s.heap.size (fun (uu : SV) => wX6 q a uu)) (va_A (wX6 q a v) s.heap.size)) [.ref (a 99), .int x1, .int x2, .int x3].toArray s 0 0 (va_A (wX6 q a v) s.heap.size)) (F0 m 43 ls []) := by
          intro n
          induction n with
          | zero => intro _ _ h; cases h
          | succ n ih43 =>
            intro z43 ρ43 hz43 hK43 H4 locs4 hP4 hD4 hS4 ls3 hl3
            obtain ⟨t43, hm, hz43⟩ := bn hz43
            unfold m_X6_ahead_L43 at hm
            refine lv_iload hx hb dX6_ahead_43 (lv_at hl3 4 rfl) ?_
            refine lv_iload_n hx hb dX6_ahead_45 rfl (lv_at hl3 2 rfl) ?_
            refine lv_icmp_ge (tgt := 63) hx hb dX6_ahead_46 (by decide) (fun c46 => ?_) (fun c46 => ?_)
            · replace hm := tp hm c46
              cases hm
              cases hz43
              exact hE43 (z43.1, z43.2) hK43 _ _ hP4 hD4 hS4 _ (lv_sub hl3 [0, 1, 3] rfl)
            · replace hm := tn hm c46
              refine lv_aload_n hx hb dX6_ahead_49 rfl (lv_at hl3 0 rfl) ?_
              refine lv_sipush (v := (252 : Int32)) hx hb dX6_ahead_50 (by decide) ?_
              obtain ⟨y53, hy53, hm⟩ := bn hm
              refine cVWi (As := [.int (252 : Int32)]) (rest := []) (Wn := fun (uu : SV) => wX6 q a uu) X hP4 hD4 hS4 (fun _ h => Or.inr h) hl3.1 (c_X6_dayOn l D q H4.size a z43.2 (252 : Int32) y53 hy53) [0, 1, 2, 3, 4, 5, 6, 7, 8, 9, 10, 11, 12, 13, 14, 15, 16, 17] [] [0, 1, 2, 3, 4, 5, 6, 7, 8, 9, 10, 11, 12, 13, 14, 15, 16, 17] rfl (Wr := []) rfl (by decide) (by decide) (by decide) (by decide) (fun _ => rfl) 0 rfl rfl rfl k_1171 mX6_dayOn ⟨rfl, rfl⟩ ⟨Nat.le_of_ble_eq_true rfl, Nat.le_of_ble_eq_true rfl⟩ rfl rfl (Nat.le_of_ble_eq_true rfl) dX6_ahead_53 ⟨Nat.zero_le _, Nat.zero_le _⟩ (fun H9 locs9 hP hD hS9 => ?_)
              have hP9 : va_P D cls (wX6 q a y53.2) H9 := hP
              have hD9 : va_D (va_A (wX6 q a v) s.heap.size) (wX6 q a y53.2) := hD
              clear hP hD hP4 hD4 hS4
              refine lv_pop hx hb dX6_ahead_56 rfl ?_
              refine lv_iinc (v := (z43.1 + (1 : Int32))) (lv' := [(4, .int (z43.1 + (1 : Int32))), (0, .ref (a 99)), (1, .int x1), (2, .int x2), (3, .int x3)]) hx hb dX6_ahead_57 hl3 (k := 4) rfl rfl (by decide) rfl (fun ls10 hl10 => ?_)
              clear hl3
              refine lv_goto (tgt := 43) hx hb dX6_ahead_60 (by decide) ?_
              cases hm
              exact ih43 ((z43.1 + (1 : Int32)), y53.2) ρ43 hz43 hK43 _ _ hP9 hD9 hS9 _ (lv_sub hl10 [1, 2, 3, 4, 0] rfl)
        exact hL43 n43 ((0 : Int32), y37) r43 hn43 hm _ _ hP1 hD1 hS1 _ (lv_sub hl2 [1, 2, 3, 4, 0] rfl)
      · replace hm := tp hm c27
        refine lv_iconst (v := (-1 : Int32)) hx hb dX6_ahead_30 (by decide) ?_
        exact eWi (Wf := fun (uu : SV) => wX6 q a uu) (u := v) X hr hlocks hP0 hD0 hS0 hm dX6_ahead_31
noncomputable def m_X6_when_K28 (z28 : Int32 × SV) : Option (Int32 × SV) :=
  some ((-4 : Int32), z28.2)
noncomputable def m_X6_when_L28 (x1 : Int32) (x2 : Int32) (z28 : Int32 × SV) : Option ((Int32 × SV) ⊕ ((Int32 × SV) ⊕ (Int32 × SV))) :=
  (if (60 : Int32) < z28.1 then some (.inr (.inl (z28.1, z28.2))) else (m_X6_topOn z28.2 (252 : Int32) x1).bind (fun y39 => (if y39 = x2 then some (.inr (.inr (z28.1, z28.2))) else (m_X6_dayOn z28.2 (252 : Int32)).bind (fun y52 => some (.inl ((z28.1 + (1 : Int32)), y52.2))))))
noncomputable def m_X6_when (v : SV) (x1 : Int32) (x2 : Int32) : Option (Int32 × SV) :=
  (m_X6_isPart v x1).bind (fun y2 => (if y2 = 0 then some ((-1 : Int32), v) else (m_X6_isSitter v x2).bind (fun y10 => (if y10 = 0 then some ((-1 : Int32), v) else (m_X6_copies v (0 : Int32) (252 : Int32)).bind (fun y23 => (lpC (m_X6_when_L28 x1 x2) ((0 : Int32), y23)).bind (Sum.elim (m_X6_when_K28) (fun y => some y)))))))
set_option maxHeartbeats 4000000 in
set_option maxRecDepth 100000 in
theorem c_X6_when (l : Launch) (D : va_G) (q : Nat → ClassId) (sz : Nat) (a : Nat → Nat) (v : SV) (x1 : Int32) (x2 : Int32) (res : Int32 × SV) (hm : m_X6_when v x1 x2 = some res) : Met l yX6_when (mw yX6_when cX6_when 4 (some .int)) ({ frames := 4, cells := 0, slots := 0, locals := 98 } : Room) (pcW D q (wX6 q a v) sz [.ref (a 99), .int x1, .int x2]) (va_Qi (fun r w => r = res.1 ∧ w = res.2) (bW D q (wX6 q a v) sz (fun (uu : SV) => wX6 q a uu)) (va_A (wX6 q a v) sz)) 0 0 (va_A (wX6 q a v) sz) := by
  refine Met.ofW (cc := cX6_when) (maxL := 4) (ret := (some .int)) (by decide) rfl ?_
  intro p e s m args below meth c s₁ B hml hv
  obtain ⟨rfl, hsz, hP0, hK, hD0⟩ := hv
  have hx := B.exec
  have hb := B.bytes
  have hr := B.returns
  have hW := mw_ws (atoms_spec (ws := mw yX6_when cX6_when 4 (some .int)) B.pre)
  have hown : s.vm.findClass RX6 = some m.cls := findClass_of_methodNamed B.named
  have hlocks := B.notSynchronized
  have X : Cx p s m [.ref (a 99), .int x1, .int x2].toArray c cX6_when 4 RX6 D q := ⟨hx, hb, hml, hown, hW, hK⟩
  subst hsz
  replace hD0 := hD0.self (sz := s.heap.size)
  have hS0 : va_S (va_A (wX6 q a v) s.heap.size) s.heap s.heap [] := va_S.rf
  have hl0 := lv_entry ([.ref (a 99), .int x1, .int x2]) (n := 4) (Nat.le_of_ble_eq_true rfl)
  rw [lg_entry_eq]
  generalize (lg_sl ([.ref (a 99), .int x1, .int x2]) ++ List.replicate (4 - (lg_sl ([.ref (a 99), .int x1, .int x2])).length) Slot.unset).toArray = ls0 at hl0 ⊢
  have hl0 : lv_has ls0 4 [(0, .ref (a 99)), (1, .int x1), (2, .int x2)] := hl0
  unfold m_X6_when at hm
  refine lv_aload_n hx hb dX6_when_0 rfl (lv_at hl0 0 rfl) ?_
  refine lv_iload_n hx hb dX6_when_1 rfl (lv_at hl0 1 rfl) ?_
  obtain ⟨y2, hy2, hm⟩ := bn hm
  refine cVRi (As := [.int x1]) (rest := []) X hP0 hl0.1 (c_X6_isPart l D q a v x1 y2 hy2) [0, 1, 2, 3, 4, 5, 6, 7, 8, 9, 10, 11, 12, 13, 14, 15, 16, 17] rfl 0 rfl rfl rfl k_1086 mX6_isPart ⟨rfl, rfl⟩ ⟨Nat.le_of_ble_eq_true rfl, Nat.le_of_ble_eq_true rfl⟩ rfl rfl (Nat.le_of_ble_eq_true rfl) dX6_when_2 ⟨Nat.zero_le _, Nat.zero_le _⟩ ?_
  refine lv_if_eq (tgt := 16) hx hb dX6_when_5 (by decide) (fun c5 => ?_) (fun c5 => ?_)
  · replace hm := tp hm c5
    refine lv_iconst (v := (-1 : Int32)) hx hb dX6_when_16 (by decide) ?_
    exact eWi (Wf := fun (uu : SV) => wX6 q a uu) (u := v) X hr hlocks hP0 hD0 hS0 hm dX6_when_17
  · replace hm := tn hm c5
    refine lv_aload_n hx hb dX6_when_8 rfl (lv_at hl0 0 rfl) ?_
    refine lv_iload_n hx hb dX6_when_9 rfl (lv_at hl0 2 rfl) ?_
    obtain ⟨y10, hy10, hm⟩ := bn hm
    refine cVRi (As := [.int x2]) (rest := []) X hP0 hl0.1 (c_X6_isSitter l D q a v x2 y10 hy10) [0, 1, 2, 3, 4, 5, 6, 7, 8, 9, 10, 11, 12, 13, 14, 15, 16, 17] rfl 0 rfl rfl rfl k_1102 mX6_isSitter ⟨rfl, rfl⟩ ⟨Nat.le_of_ble_eq_true rfl, Nat.le_of_ble_eq_true rfl⟩ rfl rfl (Nat.le_of_ble_eq_true rfl) dX6_when_10 ⟨Nat.zero_le _, Nat.zero_le _⟩ ?_
    refine lv_if_ne (tgt := 18) hx hb dX6_when_13 (by decide) (fun c13 => ?_) (fun c13 => ?_)
    · replace hm := tn hm c13
      refine lv_aload_n hx hb dX6_when_18 rfl (lv_at hl0 0 rfl) ?_
      refine lv_iconst (v := (0 : Int32)) hx hb dX6_when_19 (by decide) ?_
      refine lv_sipush (v := (252 : Int32)) hx hb dX6_when_20 (by decide) ?_
      obtain ⟨y23, hy23, hm⟩ := bn hm
      refine cVWv (As := [.int (0 : Int32), .int (252 : Int32)]) (rest := []) (Wn := fun (uu : SV) => wX6 q a uu) X hP0 hD0 hS0 (fun _ h => Or.inr h) hl0.1 (c_X6_copies l D q s.heap.size a v (0 : Int32) (252 : Int32) y23 hy23) [0, 1, 2, 3, 4, 5, 6, 7, 8, 9, 10, 11, 12, 13, 14, 15, 16, 17] [] [0, 1, 2, 3, 4, 5, 6, 7, 8, 9, 10, 11, 12, 13, 14, 15, 16, 17] rfl (Wr := []) rfl (by decide) (by decide) (by decide) (by decide) (fun _ => rfl) 0 rfl rfl rfl k_1183 mX6_copies ⟨rfl, rfl⟩ ⟨Nat.le_of_ble_eq_true rfl, Nat.le_of_ble_eq_true rfl⟩ rfl rfl (Nat.le_of_ble_eq_true rfl) dX6_when_23 ⟨Nat.zero_le _, Nat.zero_le _⟩ (fun H1 locs1 hP hD hS1 => ?_)
      have hP1 : va_P D cls (wX6 q a y23) H1 := hP
      have hD1 : va_D (va_A (wX6 q a v) s.heap.size) (wX6 q a y23) := hD
      clear hP hD hP0 hD0 hS0
      refine lv_iconst (v := (0 : Int32)) hx hb dX6_when_26 (by decide) ?_
      refine lv_istore_n (lv' := [(3, .int (0 : Int32)), (0, .ref (a 99)), (1, .int x1), (2, .int x2)]) hx hb dX6_when_27 rfl hl0 (by decide) rfl (fun ls2 hl2 => ?_)
      clear hl0
      obtain ⟨r28, hr28, hm⟩ := bn hm
      obtain ⟨n28, hn28⟩ := lpC_ex hr28
      have hE28 : ∀ z28 : Int32 × SV, m_X6_when_K28 z28 = some res → ∀ (H : Heap) (locs : List Loc), va_P D cls (wX6 q a z28.2) H → va_D (va_A (wX6 q a v) s.heap.size) (wX6 q a z28.2) → va_S (va_A (wX6 q a v) s.heap.size) s.heap H locs → ∀ ls : Array Slot, lv_has ls 4 [] → W p l e ((headSpec (mw yX6_when cX6_when 4 (some .int)) ({ frames := 4, cells := 0, slots := 0, locals := 98 } : Room)).room) s m [.ref (a 99), .int x1, .int x2].toArray below meth c H locs 0 0 (MQ below (va_Qi (fun r w => r = res.1 ∧ w = res.2) (bW D q (wX6 q a v) s.heap.size (fun (uu : SV) => wX6 q a uu)) (va_A (wX6 q a v) s.heap.size)) [.ref (a 99), .int x1, .int x2].toArray s 0 0 (va_A (wX6 q a v) s.heap.size)) (F0 m 62 ls []) := by
        intro z28 hm H6 locs6 hP6 hD6 hS6 ls5 hl5
        unfold m_X6_when_K28 at hm
        refine lv_bipush (v := (-4 : Int32)) hx hb dX6_when_62 (by decide) ?_
        exact eWi (Wf := fun (uu : SV) => wX6 q a uu) (u := z28.2) X hr hlocks hP6 hD6 hS6 hm dX6_when_64
      have hL28 : ∀ (n : Nat) (z28 : Int32 × SV) (ρ28 : (Int32 × SV) ⊕ (Int32 × SV)), lpO (m_X6_when_L28 x1 x2) n z28 = some ρ28 → (Sum.elim (m_X6_when_K28) (fun y => some y)) ρ28 = some res → ∀ (H : Heap) (locs : List Loc), va_P D cls (wX6 q a z28.2) H → va_D (va_A (wX6 q a v) s.heap.size) (wX6 q a z28.2) → va_S (va_A (wX6 q a v) s.heap.size) s.heap H locs → ∀ ls : Array Slot, lv_has ls 4 [(0, .ref (a 99)), (1, .int x1), (2, .int x2), (3, .int z28.1)] → W p l e ((headSpec (mw yX6_when cX6_when 4 (some .int)) ({ frames := 4, cells := 0, slots := 0, locals := 98 } : Room)).room) s m [.ref (a 99), .int x1, .int x2].toArray below meth c H locs 0 0 (MQ below (va_Qi (fun r w => r = res.1 ∧ w = res.2) (bW D q (wX6 q a v) s.heap.size (fun (uu : SV) => wX6 q a uu)) (va_A (wX6 q a v) s.heap.size)) [.ref (a 99), .int x1, .int x2].toArray s 0 0 (va_A (wX6 q a v) s.heap.size)) (F0 m 28 ls []) := by
        intro n
        induction n with
        | zero => intro _ _ h; cases h
        | succ n ih28 =>
          intro z28 ρ28 hz28 hK28 H4 locs4 hP4 hD4 hS4 ls3 hl3
          obtain ⟨t28, hm, hz28⟩ := bn hz28
          unfold m_X6_when_L28 at hm
          refine lv_iload_n hx hb dX6_when_28 rfl (lv_at hl3 3 rfl) ?_
          refine lv_bipush (v := (60 : Int32)) hx hb dX6_when_29 (by decide) ?_
          refine lv_icmp_gt (tgt := 62) hx hb dX6_when_31 (by decide) (fun c31 => ?_) (fun c31 => ?_)
          · replace hm := tp hm c31
            cases hm
            cases hz28
            exact hE28 (z28.1, z28.2) hK28 _ _ hP4 hD4 hS4 _ (lv_sub hl3 [] rfl)
          · replace hm := tn hm c31
            refine lv_aload_n hx hb dX6_when_34 rfl (lv_at hl3 0 rfl) ?_
            refine lv_sipush (v := (252 : Int32)) hx hb dX6_when_35 (by decide) ?_
            refine lv_iload_n hx hb dX6_when_38 rfl (lv_at hl3 1 rfl) ?_
            obtain ⟨y39, hy39, hm⟩ := bn hm
            refine cVRi (As := [.int (252 : Int32), .int x1]) (rest := []) X hP4 hl3.1 (c_X6_topOn l D q a z28.2 (252 : Int32) x1 y39 hy39) [0, 1, 2, 3, 4, 5, 6, 7, 8, 9, 10, 11, 12, 13, 14, 15, 16, 17] rfl 0 rfl rfl rfl k_1078 mX6_topOn ⟨rfl, rfl⟩ ⟨Nat.le_of_ble_eq_true rfl, Nat.le_of_ble_eq_true rfl⟩ rfl rfl (Nat.le_of_ble_eq_true rfl) dX6_when_39 ⟨Nat.zero_le _, Nat.zero_le _⟩ ?_
            refine lv_iload_n hx hb dX6_when_42 rfl (lv_at hl3 2 rfl) ?_
            refine lv_icmp_ne (tgt := 48) hx hb dX6_when_43 (by decide) (fun c43 => ?_) (fun c43 => ?_)
            · replace hm := tn hm c43
              refine lv_aload_n hx hb dX6_when_48 rfl (lv_at hl3 0 rfl) ?_
              refine lv_sipush (v := (252 : Int32)) hx hb dX6_when_49 (by decide) ?_
              obtain ⟨y52, hy52, hm⟩ := bn hm
              refine cVWi (As := [.int (252 : Int32)]) (rest := []) (Wn := fun (uu : SV) => wX6 q a uu) X hP4 hD4 hS4 (fun _ h => Or.inr h) hl3.1 (c_X6_dayOn l D q H4.size a z28.2 (252 : Int32) y52 hy52) [0, 1, 2, 3, 4, 5, 6, 7, 8, 9, 10, 11, 12, 13, 14, 15, 16, 17] [] [0, 1, 2, 3, 4, 5, 6, 7, 8, 9, 10, 11, 12, 13, 14, 15, 16, 17] rfl (Wr := []) rfl (by decide) (by decide) (by decide) (by decide) (fun _ => rfl) 0 rfl rfl rfl k_1171 mX6_dayOn ⟨rfl, rfl⟩ ⟨Nat.le_of_ble_eq_true rfl, Nat.le_of_ble_eq_true rfl⟩ rfl rfl (Nat.le_of_ble_eq_true rfl) dX6_when_52 ⟨Nat.zero_le _, Nat.zero_le _⟩ (fun H7 locs7 hP hD hS7 => ?_)
              have hP7 : va_P D cls (wX6 q a y52.2) H7 := hP
              have hD7 : va_D (va_A (wX6 q a v) s.heap.size) (wX6 q a y52.2) := hD
              clear hP hD hP4 hD4 hS4
              refine lv_pop hx hb dX6_when_55 rfl ?_
              refine lv_iinc (v := (z28.1 + (1 : Int32))) (lv' := [(3, .int (z28.1 + (1 : Int32))), (0, .ref (a 99)), (1, .int x1), (2, .int x2)]) hx hb dX6_when_56 hl3 (k := 3) rfl rfl (by decide) rfl (fun ls8 hl8 => ?_)
              clear hl3
              refine lv_goto (tgt := 28) hx hb dX6_when_59 (by decide) ?_
              cases hm
              exact ih28 ((z28.1 + (1 : Int32)), y52.2) ρ28 hz28 hK28 _ _ hP7 hD7 hS7 _ (lv_sub hl8 [1, 2, 3, 0] rfl)
            · replace hm := tp hm c43
              refine lv_iload_n hx hb dX6_when_46 rfl (lv_at hl3 3 rfl) ?_
              cases hm
              cases hz28
              have hm : (some (z28.1, z28.2) : Option (Int32 × SV)) = some res := hK28
              exact eWi (Wf := fun (uu : SV) => wX6 q a uu) (u := z28.2) X hr hlocks hP4 hD4 hS4 hm dX6_when_47
      exact hL28 n28 ((0 : Int32), y23) r28 hn28 hm _ _ hP1 hD1 hS1 _ (lv_sub hl2 [1, 2, 3, 0] rfl)
    · replace hm := tp hm c13
      refine lv_iconst (v := (-1 : Int32)) hx hb dX6_when_16 (by decide) ?_
      exact eWi (Wf := fun (uu : SV) => wX6 q a uu) (u := v) X hr hlocks hP0 hD0 hS0 hm dX6_when_17
noncomputable def m_X6_even_K30 (z30 : Int32 × SV) : Option (Int32 × SV) :=
  some ((-4 : Int32), z30.2)
noncomputable def m_X6_even_K55 (z30 : Int32 × SV) (z55 : Int32 × Int32 × SV) : Option ((Int32 × SV) ⊕ ((Int32 × SV) ⊕ (Int32 × SV))) :=
  (if z55.1 = 0 then some (.inl ((z30.1 + (1 : Int32)), z55.2.2)) else some (.inr (.inr (z30.1, z55.2.2))))
noncomputable def m_X6_even_L55 (z55 : Int32 × Int32 × SV) : Option ((Int32 × Int32 × SV) ⊕ (Int32 × Int32 × SV)) :=
  (if (z55.2.2 0 2) ≤ z55.2.1 then some (.inr (z55.1, z55.2.1, z55.2.2)) else ck (inB z55.2.1 5) ((m_X6_paidOn z55.2.2 (252 : Int32) z55.2.1).bind (fun y75 => ck (inB z55.2.1 5) (lett (up2 z55.2.2 29 ((z55.2.1).toNatClampNeg) ((z55.2.2 29 ((z55.2.1).toNatClampNeg)) + y75)) (fun v22_ => (if z55.1 = 0 then some (.inl ((0 : Int32), (z55.2.1 + (1 : Int32)), v22_)) else ck (inB z55.2.1 5) ((if (v22_ 29 ((z55.2.1).toNatClampNeg)) = (v22_ 29 (Int32.toNatClampNeg (0 : Int32))) then some (.inl ((1 : Int32), (z55.2.1 + (1 : Int32)), v22_)) else some (.inl ((0 : Int32), (z55.2.1 + (1 : Int32)), v22_))))))))))
noncomputable def m_X6_even_L30 (z30 : Int32 × SV) : Option ((Int32 × SV) ⊕ ((Int32 × SV) ⊕ (Int32 × SV))) :=
  (if (60 : Int32) < z30.1 then some (.inr (.inl (z30.1, z30.2))) else (if (z30.2 0 2) ≤ 0 then some (.inr (.inl (z30.1, z30.2))) else (m_X6_dayOn z30.2 (252 : Int32)).bind (fun y47 => (lpC (m_X6_even_L55) ((1 : Int32), (0 : Int32), y47.2)).bind (m_X6_even_K55 z30))))
noncomputable def m_X6_even_K10 (z10 : Int32 × SV) : Option (Int32 × SV) :=
  (lpC (m_X6_even_L30) ((1 : Int32), z10.2)).bind (Sum.elim (m_X6_even_K30) (fun y => some y))
noncomputable def m_X6_even_L10 (z10 : Int32 × SV) : Option ((Int32 × SV) ⊕ (Int32 × SV)) :=
  (if (5 : Int32) ≤ z10.1 then some (.inr (z10.1, z10.2)) else ck (inB z10.1 5) (lett (up2 z10.2 29 ((z10.1).toNatClampNeg) (0 : Int32)) (fun v31_ => some (.inl ((z10.1 + (1 : Int32)), v31_)))))
noncomputable def m_X6_even (v : SV) : Option (Int32 × SV) :=
  (m_X6_copies v (0 : Int32) (252 : Int32)).bind (fun y5 => (lpC (m_X6_even_L10) ((0 : Int32), y5)).bind (m_X6_even_K10))
set_option maxHeartbeats 4000000 in
set_option maxRecDepth 100000 in
theorem c_X6_even (l : Launch) (D : va_G) (q : Nat → ClassId) (sz : Nat) (a : Nat → Nat) (v : SV) (res : Int32 × SV) (hm : m_X6_even v = some res) : Met l yX6_even (mw yX6_even cX6_even 4 (some .int)) ({ frames := 4, cells := 0, slots := 0, locals := 98 } : Room) (pcW D q (wX6 q a v) sz [.ref (a 99)]) (va_Qi (fun r w => r = res.1 ∧ w = res.2) (bW D q (wX6 q a v) sz (fun (uu : SV) => wX6 q a uu)) (va_A (wX6 q a v) sz)) 0 0 (va_A (wX6 q a v) sz) := by
  refine Met.ofW (cc := cX6_even) (maxL := 4) (ret := (some .int)) (by decide) rfl ?_
  intro p e s m args below meth c s₁ B hml hv
  obtain ⟨rfl, hsz, hP0, hK, hD0⟩ := hv
  have hx := B.exec
  have hb := B.bytes
  have hr := B.returns
  have hW := mw_ws (atoms_spec (ws := mw yX6_even cX6_even 4 (some .int)) B.pre)
  have hown : s.vm.findClass RX6 = some m.cls := findClass_of_methodNamed B.named
  have hlocks := B.notSynchronized
  have X : Cx p s m [.ref (a 99)].toArray c cX6_even 4 RX6 D q := ⟨hx, hb, hml, hown, hW, hK⟩
  subst hsz
  replace hD0 := hD0.self (sz := s.heap.size)
  have hS0 : va_S (va_A (wX6 q a v) s.heap.size) s.heap s.heap [] := va_S.rf
  have hl0 := lv_entry ([.ref (a 99)]) (n := 4) (Nat.le_of_ble_eq_true rfl)
  rw [lg_entry_eq]
  generalize (lg_sl ([.ref (a 99)]) ++ List.replicate (4 - (lg_sl ([.ref (a 99)])).length) Slot.unset).toArray = ls0 at hl0 ⊢
  have hl0 : lv_has ls0 4 [(0, .ref (a 99))] := hl0
  unfold m_X6_even at hm
  refine lv_aload_n hx hb dX6_even_0 rfl (lv_at hl0 0 rfl) ?_
  refine lv_iconst (v := (0 : Int32)) hx hb dX6_even_1 (by decide) ?_
  refine lv_sipush (v := (252 : Int32)) hx hb dX6_even_2 (by decide) ?_
  obtain ⟨y5, hy5, hm⟩ := bn hm
  refine cVWv (As := [.int (0 : Int32), .int (252 : Int32)]) (rest := []) (Wn := fun (uu : SV) => wX6 q a uu) X hP0 hD0 hS0 (fun _ h => Or.inr h) hl0.1 (c_X6_copies l D q s.heap.size a v (0 : Int32) (252 : Int32) y5 hy5) [0, 1, 2, 3, 4, 5, 6, 7, 8, 9, 10, 11, 12, 13, 14, 15, 16, 17] [] [0, 1, 2, 3, 4, 5, 6, 7, 8, 9, 10, 11, 12, 13, 14, 15, 16, 17] rfl (Wr := []) rfl (by decide) (by decide) (by decide) (by decide) (fun _ => rfl) 0 rfl rfl rfl k_1183 mX6_copies ⟨rfl, rfl⟩ ⟨Nat.le_of_ble_eq_true rfl, Nat.le_of_ble_eq_true rfl⟩ rfl rfl (Nat.le_of_ble_eq_true rfl) dX6_even_5 ⟨Nat.zero_le _, Nat.zero_le _⟩ (fun H1 locs1 hP hD hS1 => ?_)
  have hP1 : va_P D cls (wX6 q a y5) H1 := hP
  have hD1 : va_D (va_A (wX6 q a v) s.heap.size) (wX6 q a y5) := hD
  clear hP hD hP0 hD0 hS0
  refine lv_iconst (v := (0 : Int32)) hx hb dX6_even_8 (by decide) ?_
  refine lv_istore_n (lv' := [(1, .int (0 : Int32)), (0, .ref (a 99))]) hx hb dX6_even_9 rfl hl0 (by decide) rfl (fun ls2 hl2 => ?_)
  clear hl0
  obtain ⟨r10, hr10, hm⟩ := bn hm
  obtain ⟨n10, hn10⟩ := lpC_ex hr10
  have hE10 : ∀ z10 : Int32 × SV, m_X6_even_K10 z10 = some res → ∀ (H : Heap) (locs : List Loc), va_P D cls (wX6 q a z10.2) H → va_D (va_A (wX6 q a v) s.heap.size) (wX6 q a z10.2) → va_S (va_A (wX6 q a v) s.heap.size) s.heap H locs → ∀ ls : Array Slot, lv_has ls 4 [(0, .ref (a 99))] → W p l e ((headSpec (mw yX6_even cX6_even 4 (some .int)) ({ frames := 4, cells := 0, slots := 0, locals := 98 } : Room)).room) s m [.ref (a 99)].toArray below meth c H locs 0 0 (MQ below (va_Qi (fun r w => r = res.1 ∧ w = res.2) (bW D q (wX6 q a v) s.heap.size (fun (uu : SV) => wX6 q a uu)) (va_A (wX6 q a v) s.heap.size)) [.ref (a 99)].toArray s 0 0 (va_A (wX6 q a v) s.heap.size)) (F0 m 28 ls []) := by
    intro z10 hm H6 locs6 hP6 hD6 hS6 ls5 hl5
    unfold m_X6_even_K10 at hm
    refine lv_iconst (v := (1 : Int32)) hx hb dX6_even_28 (by decide) ?_
    refine lv_istore_n (lv' := [(1, .int (1 : Int32)), (0, .ref (a 99))]) hx hb dX6_even_29 rfl hl5 (by decide) rfl (fun ls7 hl7 => ?_)
    clear hl5
    obtain ⟨r30, hr30, hm⟩ := bn hm
    obtain ⟨n30, hn30⟩ := lpC_ex hr30
    have hE30 : ∀ z30 : Int32 × SV, m_X6_even_K30 z30 = some res → ∀ (H : Heap) (locs : List Loc), va_P D cls (wX6 q a z30.2) H → va_D (va_A (wX6 q a v) s.heap.size) (wX6 q a z30.2) → va_S (va_A (wX6 q a v) s.heap.size) s.heap H locs → ∀ ls : Array Slot, lv_has ls 4 [] → W p l e ((headSpec (mw yX6_even cX6_even 4 (some .int)) ({ frames := 4, cells := 0, slots := 0, locals := 98 } : Room)).room) s m [.ref (a 99)].toArray below meth c H locs 0 0 (MQ below (va_Qi (fun r w => r = res.1 ∧ w = res.2) (bW D q (wX6 q a v) s.heap.size (fun (uu : SV) => wX6 q a uu)) (va_A (wX6 q a v) s.heap.size)) [.ref (a 99)].toArray s 0 0 (va_A (wX6 q a v) s.heap.size)) (F0 m 123 ls []) := by
      intro z30 hm H11 locs11 hP11 hD11 hS11 ls10 hl10
      unfold m_X6_even_K30 at hm
      refine lv_bipush (v := (-4 : Int32)) hx hb dX6_even_123 (by decide) ?_
      exact eWi (Wf := fun (uu : SV) => wX6 q a uu) (u := z30.2) X hr hlocks hP11 hD11 hS11 hm dX6_even_125
    have hL30 : ∀ (n : Nat) (z30 : Int32 × SV) (ρ30 : (Int32 × SV) ⊕ (Int32 × SV)), lpO (m_X6_even_L30) n z30 = some ρ30 → (Sum.elim (m_X6_even_K30) (fun y => some y)) ρ30 = some res → ∀ (H : Heap) (locs : List Loc), va_P D cls (wX6 q a z30.2) H → va_D (va_A (wX6 q a v) s.heap.size) (wX6 q a z30.2) → va_S (va_A (wX6 q a v) s.heap.size) s.heap H locs → ∀ ls : Array Slot, lv_has ls 4 [(0, .ref (a 99)), (1, .int z30.1)] → W p l e ((headSpec (mw yX6_even cX6_even 4 (some .int)) ({ frames := 4, cells := 0, slots := 0, locals := 98 } : Room)).room) s m [.ref (a 99)].toArray below meth c H locs 0 0 (MQ below (va_Qi (fun r w => r = res.1 ∧ w = res.2) (bW D q (wX6 q a v) s.heap.size (fun (uu : SV) => wX6 q a uu)) (va_A (wX6 q a v) s.heap.size)) [.ref (a 99)].toArray s 0 0 (va_A (wX6 q a v) s.heap.size)) (F0 m 30 ls []) := by
      intro n
      induction n with
      | zero => intro _ _ h; cases h
      | succ n ih30 =>
        intro z30 ρ30 hz30 hK30 H9 locs9 hP9 hD9 hS9 ls8 hl8
        obtain ⟨t30, hm, hz30⟩ := bn hz30
        unfold m_X6_even_L30 at hm
        refine lv_iload_n hx hb dX6_even_30 rfl (lv_at hl8 1 rfl) ?_
        refine lv_bipush (v := (60 : Int32)) hx hb dX6_even_31 (by decide) ?_
        refine lv_icmp_gt (tgt := 123) hx hb dX6_even_33 (by decide) (fun c33 => ?_) (fun c33 => ?_)
        · replace hm := tp hm c33
          cases hm
          cases hz30
          exact hE30 (z30.1, z30.2) hK30 _ _ hP9 hD9 hS9 _ (lv_sub hl8 [] rfl)
        · replace hm := tn hm c33
          refine lv_aload_n hx hb dX6_even_36 rfl (lv_at hl8 0 rfl) ?_
          refine va_get (D := D) (ci := 6) (v := .int (z30.2 0 2)) (C := RX6) (T := TX6) (N := 40) hx hb hW iX6 hown hK hP9 0 rfl rfl 2 (by decide) (hW _ k_869) (fun _ h => h) rfl dX6_even_37 ?_
          refine lv_if_le (tgt := 123) hx hb dX6_even_40 (by decide) (fun c40 => ?_) (fun c40 => ?_)
          · replace hm := tp hm c40
            cases hm
            cases hz30
            exact hE30 (z30.1, z30.2) hK30 _ _ hP9 hD9 hS9 _ (lv_sub hl8 [] rfl)
          · replace hm := tn hm c40
            refine lv_aload_n hx hb dX6_even_43 rfl (lv_at hl8 0 rfl) ?_
            refine lv_sipush (v := (252 : Int32)) hx hb dX6_even_44 (by decide) ?_
            obtain ⟨y47, hy47, hm⟩ := bn hm
            refine cVWi (As := [.int (252 : Int32)]) (rest := []) (Wn := fun (uu : SV) => wX6 q a uu) X hP9 hD9 hS9 (fun _ h => Or.inr h) hl8.1 (c_X6_dayOn l D q H9.size a z30.2 (252 : Int32) y47 hy47) [0, 1, 2, 3, 4, 5, 6, 7, 8, 9, 10, 11, 12, 13, 14, 15, 16, 17] [] [0, 1, 2, 3, 4, 5, 6, 7, 8, 9, 10, 11, 12, 13, 14, 15, 16, 17] rfl (Wr := []) rfl (by decide) (by decide) (by decide) (by decide) (fun _ => rfl) 0 rfl rfl rfl k_1171 mX6_dayOn ⟨rfl, rfl⟩ ⟨Nat.le_of_ble_eq_true rfl, Nat.le_of_ble_eq_true rfl⟩ rfl rfl (Nat.le_of_ble_eq_true rfl) dX6_even_47 ⟨Nat.zero_le _, Nat.zero_le _⟩ (fun H12 locs12 hP hD hS12 => ?_)
            have hP12 : va_P D cls (wX6 q a y47.2) H12 := hP
            have hD12 : va_D (va_A (wX6 q a v) s.heap.size) (wX6 q a y47.2) := hD
            clear hP hD hP9 hD9 hS9
            refine lv_pop hx hb dX6_even_50 rfl ?_
            refine lv_iconst (v := (1 : Int32)) hx hb dX6_even_51 (by decide) ?_
            refine lv_istore_n (lv' := [(2, .int (1 : Int32)), (0, .ref (a 99)), (1, .int z30.1)]) hx hb dX6_even_52 rfl hl8 (by decide) rfl (fun ls13 hl13 => ?_)
            clear hl8
            refine lv_iconst (v := (0 : Int32)) hx hb dX6_even_53 (by decide) ?_
            refine lv_istore_n (lv' := [(3, .int (0 : Int32)), (2, .int (1 : Int32)), (0, .ref (a 99)), (1, .int z30.1)]) hx hb dX6_even_54 rfl hl13 (by decide) rfl (fun ls14 hl14 => ?_)
            clear hl13
            obtain ⟨r55, hr55, hm⟩ := bn hm
            obtain ⟨n55, hn55⟩ := lpC_ex hr55
            have hE55 : ∀ z55 : Int32 × Int32 × SV, m_X6_even_K55 z30 z55 = some t30 → ∀ (H : Heap) (locs : List Loc), va_P D cls (wX6 q a z55.2.2) H → va_D (va_A (wX6 q a v) s.heap.size) (wX6 q a z55.2.2) → va_S (va_A (wX6 q a v) s.heap.size) s.heap H locs → ∀ ls : Array Slot, lv_has ls 4 [(0, .ref (a 99)), (1, .int z30.1), (2, .int z55.1)] → W p l e ((headSpec (mw yX6_even cX6_even 4 (some .int)) ({ frames := 4, cells := 0, slots := 0, locals := 98 } : Room)).room) s m [.ref (a 99)].toArray below meth c H locs 0 0 (MQ below (va_Qi (fun r w => r = res.1 ∧ w = res.2) (bW D q (wX6 q a v) s.heap.size (fun (uu : SV) => wX6 q a uu)) (va_A (wX6 q a v) s.heap.size)) [.ref (a 99)].toArray s 0 0 (va_A (wX6 q a v) s.heap.size)) (F0 m 111 ls []) := by
              intro z55 hm H18 locs18 hP18 hD18 hS18 ls17 hl17
              unfold m_X6_even_K55 at hm
              refine lv_iload_n hx hb dX6_even_111 rfl (lv_at hl17 2 rfl) ?_
              refine lv_if_eq (tgt := 117) hx hb dX6_even_112 (by decide) (fun c112 => ?_) (fun c112 => ?_)
              · replace hm := tp hm c112
                refine lv_iinc (v := (z30.1 + (1 : Int32))) (lv' := [(1, .int (z30.1 + (1 : Int32))), (0, .ref (a 99)), (2, .int z55.1)]) hx hb dX6_even_117 hl17 (k := 1) rfl rfl (by decide) rfl (fun ls19 hl19 => ?_)
                clear hl17
                refine lv_goto (tgt := 30) hx hb dX6_even_120 (by decide) ?_
                cases hm
                exact ih30 ((z30.1 + (1 : Int32)), z55.2.2) ρ30 hz30 hK30 _ _ hP18 hD18 hS18 _ (lv_sub hl19 [1, 0] rfl)
              · replace hm := tn hm c112
                refine lv_iload_n hx hb dX6_even_115 rfl (lv_at hl17 1 rfl) ?_
                cases hm
                cases hz30
                have hm : (some (z30.1, z55.2.2) : Option (Int32 × SV)) = some res := hK30
                exact eWi (Wf := fun (uu : SV) => wX6 q a uu) (u := z55.2.2) X hr hlocks hP18 hD18 hS18 hm dX6_even_116
            have hL55 : ∀ (n : Nat) (z55 : Int32 × Int32 × SV) (ρ55 : Int32 × Int32 × SV), lpO (m_X6_even_L55) n z55 = some ρ55 → (m_X6_even_K55 z30) ρ55 = some t30 → ∀ (H : Heap) (locs : List Loc), va_P D cls (wX6 q a z55.2.2) H → va_D (va_A (wX6 q a v) s.heap.size) (wX6 q a z55.2.2) → va_S (va_A (wX6 q a v) s.heap.size) s.heap H locs → ∀ ls : Array Slot, lv_has ls 4 [(0, .ref (a 99)), (1, .int z30.1), (2, .int z55.1), (3, .int z55.2.1)] → W p l e ((headSpec (mw yX6_even cX6_even 4 (some .int)) ({ frames := 4, cells := 0, slots := 0, locals := 98 } : Room)).room) s m [.ref (a 99)].toArray below meth c H locs 0 0 (MQ below (va_Qi (fun r w => r = res.1 ∧ w = res.2) (bW D q (wX6 q a v) s.heap.size (fun (uu : SV) => wX6 q a uu)) (va_A (wX6 q a v) s.heap.size)) [.ref (a 99)].toArray s 0 0 (va_A (wX6 q a v) s.heap.size)) (F0 m 55 ls []) := by
              intro n
              induction n with
              | zero => intro _ _ h; cases h
              | succ n ih55 =>
                intro z55 ρ55 hz55 hK55 H16 locs16 hP16 hD16 hS16 ls15 hl15
                obtain ⟨t55, hm, hz55⟩ := bn hz55
                unfold m_X6_even_L55 at hm
                refine lv_iload_n hx hb dX6_even_55 rfl (lv_at hl15 3 rfl) ?_
                refine lv_aload_n hx hb dX6_even_56 rfl (lv_at hl15 0 rfl) ?_
                refine va_get (D := D) (ci := 6) (v := .int (z55.2.2 0 2)) (C := RX6) (T := TX6) (N := 40) hx hb hW iX6 hown hK hP16 0 rfl rfl 2 (by decide) (hW _ k_869) (fun _ h => h) rfl dX6_even_57 ?_
                refine lv_icmp_ge (tgt := 111) hx hb dX6_even_60 (by decide) (fun c60 => ?_) (fun c60 => ?_)
                · replace hm := tp hm c60
                  cases hm
                  cases hz55
                  exact hE55 (z55.1, z55.2.1, z55.2.2) hK55 _ _ hP16 hD16 hS16 _ (lv_sub hl15 [0, 1, 2] rfl)
                · replace hm := tn hm c60
                  refine lv_aload_n hx hb dX6_even_63 rfl (lv_at hl15 0 rfl) ?_
                  refine va_get (D := D) (ci := 6) (v := .ref (a 29)) (C := RX6) (T := TX6) (N := 40) hx hb hW iX6 hown hK hP16 0 rfl rfl 29 (by decide) (hW _ k_896) (fun _ h => h) rfl dX6_even_64 ?_
                  refine lv_iload_n hx hb dX6_even_67 rfl (lv_at hl15 3 rfl) ?_
                  refine lv_dup2_11 hx hb dX6_even_68 rfl rfl ?_
                  obtain ⟨h20, hm⟩ := ckd hm
                  refine va_iald (f := (z55.2.2 29)) hx hb hK hP16 10 0 rfl rfl (inB_vp h20) dX6_even_69 ?_
                  refine lv_aload_n hx hb dX6_even_70 rfl (lv_at hl15 0 rfl) ?_
                  refine lv_sipush (v := (252 : Int32)) hx hb dX6_even_71 (by decide) ?_
                  refine lv_iload_n hx hb dX6_even_74 rfl (lv_at hl15 3 rfl) ?_
                  obtain ⟨y75, hy75, hm⟩ := bn hm
                  refine cVRi (As := [.int (252 : Int32), .int z55.2.1]) (rest := [.int (z55.2.2 29 ((z55.2.1).toNatClampNeg)), .int z55.2.1, .ref (a 29)]) X hP16 hl15.1 (c_X6_paidOn l D q a z55.2.2 (252 : Int32) z55.2.1 y75 hy75) [0, 1, 2, 3, 4, 5, 6, 7, 8, 9, 10, 11, 12, 13, 14, 15, 16, 17] rfl 0 rfl rfl rfl k_1175 mX6_paidOn ⟨rfl, rfl⟩ ⟨Nat.le_of_ble_eq_true rfl, Nat.le_of_ble_eq_true rfl⟩ rfl rfl (Nat.le_of_ble_eq_true rfl) dX6_even_75 ⟨Nat.zero_le _, Nat.zero_le _⟩ ?_
                  refine lv_iadd hx hb dX6_even_78 ?_
                  obtain ⟨h21, hm⟩ := ckd hm
                  refine va_iast (f := (z55.2.2 29)) hx hb hK hP16 hD16 hS16 10 0 rfl rfl (inB_vp h21) dX6_even_79 (fun H22 locs22 hP hD hS22 => ?_)
                  obtain ⟨v22_, e22, hm⟩ := ltd hm
                  have hP22 : va_P D cls (wX6 q a v22_) H22 := by rw [e22]; exact hP
                  have hD22 : va_D (va_A (wX6 q a v) s.heap.size) (wX6 q a v22_) := by rw [e22]; exact hD
                  clear hP hD hP16 hD16 hS16
                  refine lv_iload_n hx hb dX6_even_80 rfl (lv_at hl15 2 rfl) ?_
                  refine lv_if_eq (tgt := 103) hx hb dX6_even_81 (by decide) (fun c81 => ?_) (fun c81 => ?_)
                  · replace hm := tp hm c81
                    refine lv_iconst (v := (0 : Int32)) hx hb dX6_even_103 (by decide) ?_
                    refine lv_istore_n (lv' := [(2, .int (0 : Int32)), (0, .ref (a 99)), (1, .int z30.1), (3, .int z55.2.1)]) hx hb dX6_even_104 rfl hl15 (by decide) rfl (fun ls23 hl23 => ?_)
                    clear hl15
                    refine lv_iinc (v := (z55.2.1 + (1 : Int32))) (lv' := [(3, .int (z55.2.1 + (1 : Int32))), (2, .int (0 : Int32)), (0, .ref (a 99)), (1, .int z30.1)]) hx hb dX6_even_105 hl23 (k := 3) rfl rfl (by decide) rfl (fun ls24 hl24 => ?_)
                    clear hl23
                    refine lv_goto (tgt := 55) hx hb dX6_even_108 (by decide) ?_
                    cases hm
                    exact ih55 ((0 : Int32), (z55.2.1 + (1 : Int32)), v22_) ρ55 hz55 hK55 _ _ hP22 hD22 hS22 _ (lv_sub hl24 [2, 3, 1, 0] rfl)
                  · replace hm := tn hm c81
                    refine lv_aload_n hx hb dX6_even_84 rfl (lv_at hl15 0 rfl) ?_
                    refine va_get (D := D) (ci := 6) (v := .ref (a 29)) (C := RX6) (T := TX6) (N := 40) hx hb hW iX6 hown hK hP22 0 rfl rfl 29 (by decide) (hW _ k_896) (fun _ h => h) rfl dX6_even_85 ?_
                    refine lv_iload_n hx hb dX6_even_88 rfl (lv_at hl15 3 rfl) ?_
                    obtain ⟨h25, hm⟩ := ckd hm
                    refine va_iald (f := (v22_ 29)) hx hb hK hP22 10 0 rfl rfl (inB_vp h25) dX6_even_89 ?_
                    refine lv_aload_n hx hb dX6_even_90 rfl (lv_at hl15 0 rfl) ?_
                    refine va_get (D := D) (ci := 6) (v := .ref (a 29)) (C := RX6) (T := TX6) (N := 40) hx hb hW iX6 hown hK hP22 0 rfl rfl 29 (by decide) (hW _ k_896) (fun _ h => h) rfl dX6_even_91 ?_
                    refine lv_iconst (v := (0 : Int32)) hx hb dX6_even_94 (by decide) ?_
                    refine va_iald (f := (v22_ 29)) hx hb hK hP22 10 0 rfl rfl (inB_vp (by decide)) dX6_even_95 ?_
                    refine lv_icmp_ne (tgt := 103) hx hb dX6_even_96 (by decide) (fun c96 => ?_) (fun c96 => ?_)
                    · replace hm := tn hm c96
                      refine lv_iconst (v := (0 : Int32)) hx hb dX6_even_103 (by decide) ?_
                      refine lv_istore_n (lv' := [(2, .int (0 : Int32)), (0, .ref (a 99)), (1, .int z30.1), (3, .int z55.2.1)]) hx hb dX6_even_104 rfl hl15 (by decide) rfl (fun ls28 hl28 => ?_)
                      clear hl15
                      refine lv_iinc (v := (z55.2.1 + (1 : Int32))) (lv' := [(3, .int (z55.2.1 + (1 : Int32))), (2, .int (0 : Int32)), (0, .ref (a 99)), (1, .int z30.1)]) hx hb dX6_even_105 hl28 (k := 3) rfl rfl (by decide) rfl (fun ls29 hl29 => ?_)
                      clear hl28
                      refine lv_goto (tgt := 55) hx hb dX6_even_108 (by decide) ?_
                      cases hm
                      exact ih55 ((0 : Int32), (z55.2.1 + (1 : Int32)), v22_) ρ55 hz55 hK55 _ _ hP22 hD22 hS22 _ (lv_sub hl29 [2, 3, 1, 0] rfl)
                    · replace hm := tp hm c96
                      refine lv_iconst (v := (1 : Int32)) hx hb dX6_even_99 (by decide) ?_
                      refine lv_goto (tgt := 104) hx hb dX6_even_100 (by decide) ?_
                      refine lv_istore_n (lv' := [(2, .int (1 : Int32)), (0, .ref (a 99)), (1, .int z30.1), (3, .int z55.2.1)]) hx hb dX6_even_104 rfl hl15 (by decide) rfl (fun ls26 hl26 => ?_)
                      clear hl15
                      refine lv_iinc (v := (z55.2.1 + (1 : Int32))) (lv' := [(3, .int (z55.2.1 + (1 : Int32))), (2, .int (1 : Int32)), (0, .ref (a 99)), (1, .int z30.1)]) hx hb dX6_even_105 hl26 (k := 3) rfl rfl (by decide) rfl (fun ls27 hl27 => ?_)
                      clear hl26
                      refine lv_goto (tgt := 55) hx hb dX6_even_108 (by decide) ?_
                      cases hm
                      exact ih55 ((1 : Int32), (z55.2.1 + (1 : Int32)), v22_) ρ55 hz55 hK55 _ _ hP22 hD22 hS22 _ (lv_sub hl27 [2, 3, 1, 0] rfl)
            exact hL55 n55 ((1 : Int32), (0 : Int32), y47.2) r55 hn55 hm _ _ hP12 hD12 hS12 _ (lv_sub hl14 [2, 3, 1, 0] rfl)
    exact hL30 n30 ((1 : Int32), z10.2) r30 hn30 hm _ _ hP6 hD6 hS6 _ (lv_sub hl7 [1, 0] rfl)
  have hL10 : ∀ (n : Nat) (z10 : Int32 × SV) (ρ10 : Int32 × SV), lpO (m_X6_even_L10) n z10 = some ρ10 → (m_X6_even_K10) ρ10 = some res → ∀ (H : Heap) (locs : List Loc), va_P D cls (wX6 q a z10.2) H → va_D (va_A (wX6 q a v) s.heap.size) (wX6 q a z10.2) → va_S (va_A (wX6 q a v) s.heap.size) s.heap H locs → ∀ ls : Array Slot, lv_has ls 4 [(0, .ref (a 99)), (1, .int z10.1)] → W p l e ((headSpec (mw yX6_even cX6_even 4 (some .int)) ({ frames := 4, cells := 0, slots := 0, locals := 98 } : Room)).room) s m [.ref (a 99)].toArray below meth c H locs 0 0 (MQ below (va_Qi (fun r w => r = res.1 ∧ w = res.2) (bW D q (wX6 q a v) s.heap.size (fun (uu : SV) => wX6 q a uu)) (va_A (wX6 q a v) s.heap.size)) [.ref (a 99)].toArray s 0 0 (va_A (wX6 q a v) s.heap.size)) (F0 m 10 ls []) := by
    intro n
    induction n with
    | zero => intro _ _ h; cases h
    | succ n ih10 =>
      intro z10 ρ10 hz10 hK10 H4 locs4 hP4 hD4 hS4 ls3 hl3
      obtain ⟨t10, hm, hz10⟩ := bn hz10
      unfold m_X6_even_L10 at hm
      refine lv_iload_n hx hb dX6_even_10 rfl (lv_at hl3 1 rfl) ?_
      refine lv_iconst (v := (5 : Int32)) hx hb dX6_even_11 (by decide) ?_
      refine lv_icmp_ge (tgt := 28) hx hb dX6_even_12 (by decide) (fun c12 => ?_) (fun c12 => ?_)
      · replace hm := tp hm c12
        cases hm
        cases hz10
        exact hE10 (z10.1, z10.2) hK10 _ _ hP4 hD4 hS4 _ (lv_sub hl3 [0] rfl)
      · replace hm := tn hm c12
        refine lv_aload_n hx hb dX6_even_15 rfl (lv_at hl3 0 rfl) ?_
        refine va_get (D := D) (ci := 6) (v := .ref (a 29)) (C := RX6) (T := TX6) (N := 40) hx hb hW iX6 hown hK hP4 0 rfl rfl 29 (by decide) (hW _ k_896) (fun _ h => h) rfl dX6_even_16 ?_
        refine lv_iload_n hx hb dX6_even_19 rfl (lv_at hl3 1 rfl) ?_
        refine lv_iconst (v := (0 : Int32)) hx hb dX6_even_20 (by decide) ?_
        obtain ⟨h30, hm⟩ := ckd hm
        refine va_iast (f := (z10.2 29)) hx hb hK hP4 hD4 hS4 10 0 rfl rfl (inB_vp h30) dX6_even_21 (fun H31 locs31 hP hD hS31 => ?_)
        obtain ⟨v31_, e31, hm⟩ := ltd hm
        have hP31 : va_P D cls (wX6 q a v31_) H31 := by rw [e31]; exact hP
        have hD31 : va_D (va_A (wX6 q a v) s.heap.size) (wX6 q a v31_) := by rw [e31]; exact hD
        clear hP hD hP4 hD4 hS4
        refine lv_iinc (v := (z10.1 + (1 : Int32))) (lv' := [(1, .int (z10.1 + (1 : Int32))), (0, .ref (a 99))]) hx hb dX6_even_22 hl3 (k := 1) rfl rfl (by decide) rfl (fun ls32 hl32 => ?_)
        clear hl3
        refine lv_goto (tgt := 10) hx hb dX6_even_25 (by decide) ?_
        cases hm
        exact ih10 ((z10.1 + (1 : Int32)), v31_) ρ10 hz10 hK10 _ _ hP31 hD31 hS31 _ (lv_sub hl32 [1, 0] rfl)
  exact hL10 n10 ((0 : Int32), y5) r10 hn10 hm _ _ hP1 hD1 hS1 _ (lv_sub hl2 [1, 0] rfl)
noncomputable def m_X6_pictures_K4 (z4 : Int32 × Int32) : Option (Int32) :=
  some z4.1
noncomputable def m_X6_pictures_L4 (v : SV) (z4 : Int32 × Int32) : Option ((Int32 × Int32) ⊕ (Int32 × Int32)) :=
  (if (v 0 1) ≤ z4.2 then some (.inr (z4.1, z4.2)) else some (.inl ((z4.1 * (v 0 2)), (z4.2 + (1 : Int32)))))
noncomputable def m_X6_pictures (v : SV) : Option (Int32) :=
  (lpC (m_X6_pictures_L4 v) ((1 : Int32), (0 : Int32))).bind (m_X6_pictures_K4)
set_option maxHeartbeats 4000000 in
set_option maxRecDepth 100000 in
theorem c_X6_pictures (l : Launch) (D : va_G) (q : Nat → ClassId) (a : Nat → Nat) (v : SV) (res : Int32) (hm : m_X6_pictures v = some res) : Met l yX6_pictures (mw yX6_pictures cX6_pictures 3 (some .int)) ({ frames := 0, cells := 0, slots := 0, locals := 0 } : Room) (pcR D q (wX6 q a v) [.ref (a 99)]) (vp_Si (fun x => x = res)) 0 0 (fun _ => False) := by
  refine Met.ofW (cc := cX6_pictures) (maxL := 3) (ret := (some .int)) (by decide) rfl ?_
  intro p e s m args below meth c s₁ B hml hv
  obtain ⟨rfl, hP0, hK⟩ := hv
  have hx := B.exec
  have hb := B.bytes
  have hr := B.returns
  have hW := mw_ws (atoms_spec (ws := mw yX6_pictures cX6_pictures 3 (some .int)) B.pre)
  have hown : s.vm.findClass RX6 = some m.cls := findClass_of_methodNamed B.named
  have hlocks := B.notSynchronized
  have X : Cx p s m [.ref (a 99)].toArray c cX6_pictures 3 RX6 D q := ⟨hx, hb, hml, hown, hW, hK⟩
  have hl0 := lv_entry ([.ref (a 99)]) (n := 3) (Nat.le_of_ble_eq_true rfl)
  rw [lg_entry_eq]
  generalize (lg_sl ([.ref (a 99)]) ++ List.replicate (3 - (lg_sl ([.ref (a 99)])).length) Slot.unset).toArray = ls0 at hl0 ⊢
  have hl0 : lv_has ls0 3 [(0, .ref (a 99))] := hl0
  unfold m_X6_pictures at hm
  refine lv_iconst (v := (1 : Int32)) hx hb dX6_pictures_0 (by decide) ?_
  refine lv_istore_n (lv' := [(1, .int (1 : Int32)), (0, .ref (a 99))]) hx hb dX6_pictures_1 rfl hl0 (by decide) rfl (fun ls1 hl1 => ?_)
  clear hl0
  refine lv_iconst (v := (0 : Int32)) hx hb dX6_pictures_2 (by decide) ?_
  refine lv_istore_n (lv' := [(2, .int (0 : Int32)), (1, .int (1 : Int32)), (0, .ref (a 99))]) hx hb dX6_pictures_3 rfl hl1 (by decide) rfl (fun ls2 hl2 => ?_)
  clear hl1
  obtain ⟨r4, hr4, hm⟩ := bn hm
  obtain ⟨n4, hn4⟩ := lpC_ex hr4
  have hE4 : ∀ z4 : Int32 × Int32, m_X6_pictures_K4 z4 = some res → ∀ ls : Array Slot, lv_has ls 3 [(1, .int z4.1)] → W p l e ((headSpec (mw yX6_pictures cX6_pictures 3 (some .int)) ({ frames := 0, cells := 0, slots := 0, locals := 0 } : Room)).room) s m [.ref (a 99)].toArray below meth c s.heap [] 0 0 (MQ below (vp_Si (fun x => x = res)) [.ref (a 99)].toArray s 0 0 (fun _ => False)) (F0 m 25 ls []) := by
    intro z4 hm ls4 hl4
    unfold m_X6_pictures_K4 at hm
    refine lv_iload_n hx hb dX6_pictures_25 rfl (lv_at hl4 0 rfl) ?_
    exact eRi  X hr hlocks hm dX6_pictures_26
  have hL4 : ∀ (n : Nat) (z4 : Int32 × Int32) (ρ4 : Int32 × Int32), lpO (m_X6_pictures_L4 v) n z4 = some ρ4 → (m_X6_pictures_K4) ρ4 = some res → ∀ ls : Array Slot, lv_has ls 3 [(0, .ref (a 99)), (1, .int z4.1), (2, .int z4.2)] → W p l e ((headSpec (mw yX6_pictures cX6_pictures 3 (some .int)) ({ frames := 0, cells := 0, slots := 0, locals := 0 } : Room)).room) s m [.ref (a 99)].toArray below meth c s.heap [] 0 0 (MQ below (vp_Si (fun x => x = res)) [.ref (a 99)].toArray s 0 0 (fun _ => False)) (F0 m 4 ls []) := by
    intro n
    induction n with
    | zero => intro _ _ h; cases h
    | succ n ih4 =>
      intro z4 ρ4 hz4 hK4 ls3 hl3
      obtain ⟨t4, hm, hz4⟩ := bn hz4
      unfold m_X6_pictures_L4 at hm
      refine lv_iload_n hx hb dX6_pictures_4 rfl (lv_at hl3 2 rfl) ?_
      refine lv_aload_n hx hb dX6_pictures_5 rfl (lv_at hl3 0 rfl) ?_
      refine va_get (D := D) (ci := 6) (v := .int (v 0 1)) (C := RX6) (T := TX6) (N := 40) hx hb hW iX6 hown hK hP0 0 rfl rfl 1 (by decide) (hW _ k_868) (fun _ h => h) rfl dX6_pictures_6 ?_
      refine lv_icmp_ge (tgt := 25) hx hb dX6_pictures_9 (by decide) (fun c9 => ?_) (fun c9 => ?_)
      · replace hm := tp hm c9
        cases hm
        cases hz4
        exact hE4 (z4.1, z4.2) hK4 _ (lv_sub hl3 [1] rfl)
      · replace hm := tn hm c9
        refine lv_iload_n hx hb dX6_pictures_12 rfl (lv_at hl3 1 rfl) ?_
        refine lv_aload_n hx hb dX6_pictures_13 rfl (lv_at hl3 0 rfl) ?_
        refine va_get (D := D) (ci := 6) (v := .int (v 0 2)) (C := RX6) (T := TX6) (N := 40) hx hb hW iX6 hown hK hP0 0 rfl rfl 2 (by decide) (hW _ k_869) (fun _ h => h) rfl dX6_pictures_14 ?_
        refine lv_imul hx hb dX6_pictures_17 ?_
        refine lv_istore_n (lv' := [(1, .int (z4.1 * (v 0 2))), (0, .ref (a 99)), (2, .int z4.2)]) hx hb dX6_pictures_18 rfl hl3 (by decide) rfl (fun ls5 hl5 => ?_)
        clear hl3
        refine lv_iinc (v := (z4.2 + (1 : Int32))) (lv' := [(2, .int (z4.2 + (1 : Int32))), (1, .int (z4.1 * (v 0 2))), (0, .ref (a 99))]) hx hb dX6_pictures_19 hl5 (k := 2) rfl rfl (by decide) rfl (fun ls6 hl6 => ?_)
        clear hl5
        refine lv_goto (tgt := 4) hx hb dX6_pictures_22 (by decide) ?_
        cases hm
        exact ih4 ((z4.1 * (v 0 2)), (z4.2 + (1 : Int32))) ρ4 hz4 hK4 _ (lv_sub hl6 [2, 1, 0] rfl)
  exact hL4 n4 ((1 : Int32), (0 : Int32)) r4 hn4 hm _ (lv_sub hl2 [2, 1, 0] rfl)
noncomputable def m_X6_laysPicture_K43 (z9 : Int32 × Int32 × SV) (z43 : Int32 × Int32) : Option (Int32 × SV) :=
  ck (nzB z43.1) (some (z43.1, z9.2.2))
noncomputable def m_X6_laysPicture_L43 (z9 : Int32 × Int32 × SV) (z43 : Int32 × Int32) : Option ((Int32 × Int32) ⊕ (Int32 × Int32)) :=
  (if (z9.2.2 0 4) ≤ z43.2 then some (.inr (z43.1, z43.2)) else (if z43.1 = 0 then some (.inl ((0 : Int32), (z43.2 + (1 : Int32)))) else ck (inB ((2 : Int32) * z43.2) 10) (ck (inB (z9.2.2 3 ((((2 : Int32) * z43.2)).toNatClampNeg)) 6) (ck (inB (((2 : Int32) * z43.2) + (1 : Int32)) 10) (ck (inB (z9.2.2 3 (((((2 : Int32) * z43.2) + (1 : Int32))).toNatClampNeg)) 6) ((m_X6_areLike z9.2.2 (z9.2.2 30 (((z9.2.2 3 ((((2 : Int32) * z43.2)).toNatClampNeg))).toNatClampNeg)) (z9.2.2 30 (((z9.2.2 3 (((((2 : Int32) * z43.2) + (1 : Int32))).toNatClampNeg))).toNatClampNeg))).bind (fun y87 => (if y87 = 0 then some (.inl ((0 : Int32), (z43.2 + (1 : Int32)))) else some (.inl ((1 : Int32), (z43.2 + (1 : Int32))))))))))))
noncomputable def m_X6_laysPicture_K9 (z9 : Int32 × Int32 × SV) : Option (Int32 × SV) :=
  (lpC (m_X6_laysPicture_L43 z9) ((1 : Int32), (0 : Int32))).bind (m_X6_laysPicture_K43 z9)
noncomputable def m_X6_laysPicture_L9 (z9 : Int32 × Int32 × SV) : Option ((Int32 × Int32 × SV) ⊕ (Int32 × Int32 × SV)) :=
  (if z9.2.1 < 0 then some (.inr (z9.1, z9.2.1, z9.2.2)) else ck (dvB (z9.2.2 0 2)) (ck (inB z9.2.1 6) (lett (up2 z9.2.2 30 ((z9.2.1).toNatClampNeg) (z9.1 - z9.1 / (z9.2.2 0 2) * (z9.2.2 0 2))) (fun v25_ => ck (dvB (v25_ 0 2)) (some (.inl ((z9.1 / (v25_ 0 2)), (z9.2.1 + (-1 : Int32)), v25_)))))))
noncomputable def m_X6_laysPicture (v : SV) (x1 : Int32) : Option (Int32 × SV) :=
  (lpC (m_X6_laysPicture_L9) (x1, ((v 0 1) - (1 : Int32)), v)).bind (m_X6_laysPicture_K9)
set_option maxHeartbeats 4000000 in
set_option maxRecDepth 100000 in
theorem c_X6_laysPicture (l : Launch) (D : va_G) (q : Nat → ClassId) (sz : Nat) (a : Nat → Nat) (v : SV) (x1 : Int32) (res : Int32 × SV) (hm : m_X6_laysPicture v x1 = some res) : Met l yX6_laysPicture (mw yX6_laysPicture cX6_laysPicture 5 (some .boolean)) ({ frames := 3, cells := 0, slots := 0, locals := 72 } : Room) (pcW D q (wX6 q a v) sz [.ref (a 99), .int x1]) (va_Qi (fun r w => r = res.1 ∧ w = res.2) (bW D q (wX6 q a v) sz (fun (uu : SV) => wX6 q a uu)) (va_A (wX6 q a v) sz)) 0 0 (va_A (wX6 q a v) sz) := by
  refine Met.ofW (cc := cX6_laysPicture) (maxL := 5) (ret := (some .boolean)) (by decide) rfl ?_
  intro p e s m args below meth c s₁ B hml hv
  obtain ⟨rfl, hsz, hP0, hK, hD0⟩ := hv
  have hx := B.exec
  have hb := B.bytes
  have hr := B.returns
  have hW := mw_ws (atoms_spec (ws := mw yX6_laysPicture cX6_laysPicture 5 (some .boolean)) B.pre)
  have hown : s.vm.findClass RX6 = some m.cls := findClass_of_methodNamed B.named
  have hlocks := B.notSynchronized
  have X : Cx p s m [.ref (a 99), .int x1].toArray c cX6_laysPicture 5 RX6 D q := ⟨hx, hb, hml, hown, hW, hK⟩
  subst hsz
  replace hD0 := hD0.self (sz := s.heap.size)
  have hS0 : va_S (va_A (wX6 q a v) s.heap.size) s.heap s.heap [] := va_S.rf
  have hl0 := lv_entry ([.ref (a 99), .int x1]) (n := 5) (Nat.le_of_ble_eq_true rfl)
  rw [lg_entry_eq]
  generalize (lg_sl ([.ref (a 99), .int x1]) ++ List.replicate (5 - (lg_sl ([.ref (a 99), .int x1])).length) Slot.unset).toArray = ls0 at hl0 ⊢
  have hl0 : lv_has ls0 5 [(0, .ref (a 99)), (1, .int x1)] := hl0
  unfold m_X6_laysPicture at hm
  refine lv_iload_n hx hb dX6_laysPicture_0 rfl (lv_at hl0 1 rfl) ?_
  refine lv_istore_n (lv' := [(2, .int x1), (0, .ref (a 99)), (1, .int x1)]) hx hb dX6_laysPicture_1 rfl hl0 (by decide) rfl (fun ls1 hl1 => ?_)
  clear hl0
  refine lv_aload_n hx hb dX6_laysPicture_2 rfl (lv_at hl1 1 rfl) ?_
  refine va_get (D := D) (ci := 6) (v := .int (v 0 1)) (C := RX6) (T := TX6) (N := 40) hx hb hW iX6 hown hK hP0 0 rfl rfl 1 (by decide) (hW _ k_868) (fun _ h => h) rfl dX6_laysPicture_3 ?_
  refine lv_iconst (v := (1 : Int32)) hx hb dX6_laysPicture_6 (by decide) ?_
  refine lv_isub hx hb dX6_laysPicture_7 ?_
  refine lv_istore_n (lv' := [(3, .int ((v 0 1) - (1 : Int32))), (2, .int x1), (0, .ref (a 99)), (1, .int x1)]) hx hb dX6_laysPicture_8 rfl hl1 (by decide) rfl (fun ls2 hl2 => ?_)
  clear hl1
  obtain ⟨r9, hr9, hm⟩ := bn hm
  obtain ⟨n9, hn9⟩ := lpC_ex hr9
  have hE9 : ∀ z9 : Int32 × Int32 × SV, m_X6_laysPicture_K9 z9 = some res → ∀ (H : Heap) (locs : List Loc), va_P D cls (wX6 q a z9.2.2) H → va_D (va_A (wX6 q a v) s.heap.size) (wX6 q a z9.2.2) → va_S (va_A (wX6 q a v) s.heap.size) s.heap H locs → ∀ ls : Array Slot, lv_has ls 5 [(0, .ref (a 99))] → W p l e ((headSpec (mw yX6_laysPicture cX6_laysPicture 5 (some .boolean)) ({ frames := 3, cells := 0, slots := 0, locals := 72 } : Room)).room) s m [.ref (a 99), .int x1].toArray below meth c H locs 0 0 (MQ below (va_Qi (fun r w => r = res.1 ∧ w = res.2) (bW D q (wX6 q a v) s.heap.size (fun (uu : SV) => wX6 q a uu)) (va_A (wX6 q a v) s.heap.size)) [.ref (a 99), .int x1].toArray s 0 0 (va_A (wX6 q a v) s.heap.size)) (F0 m 38 ls []) := by
    intro z9 hm H6 locs6 hP6 hD6 hS6 ls5 hl5
    unfold m_X6_laysPicture_K9 at hm
    refine lv_iconst (v := (1 : Int32)) hx hb dX6_laysPicture_38 (by decide) ?_
    refine lv_istore_n (lv' := [(3, .int (1 : Int32)), (0, .ref (a 99))]) hx hb dX6_laysPicture_39 rfl hl5 (by decide) rfl (fun ls7 hl7 => ?_)
    clear hl5
    refine lv_iconst (v := (0 : Int32)) hx hb dX6_laysPicture_40 (by decide) ?_
    refine lv_istore (lv' := [(4, .int (0 : Int32)), (3, .int (1 : Int32)), (0, .ref (a 99))]) hx hb dX6_laysPicture_41 hl7 (by decide) rfl (fun ls8 hl8 => ?_)
    clear hl7
    obtain ⟨r43, hr43, hm⟩ := bn hm
    obtain ⟨n43, hn43⟩ := lpC_ex hr43
    have hE43 : ∀ z43 : Int32 × Int32, m_X6_laysPicture_K43 z9 z43 = some res → ∀ (H : Heap) (locs : List Loc), va_P D cls (wX6 q a z9.2.2) H → va_D (va_A (wX6 q a v) s.heap.size) (wX6 q a z9.2.2) → va_S (va_A (wX6 q a v) s.heap.size) s.heap H locs → ∀ ls : Array Slot, lv_has ls 5 [(3, .int z43.1)] → W p l e ((headSpec (mw yX6_laysPicture cX6_laysPicture 5 (some .boolean)) ({ frames := 3, cells := 0, slots := 0, locals := 72 } : Room)).room) s m [.ref (a 99), .int x1].toArray below meth c H locs 0 0 (MQ below (va_Qi (fun r w => r = res.1 ∧ w = res.2) (bW D q (wX6 q a v) s.heap.size (fun (uu : SV) => wX6 q a uu)) (va_A (wX6 q a v) s.heap.size)) [.ref (a 99), .int x1].toArray s 0 0 (va_A (wX6 q a v) s.heap.size)) (F0 m 105 ls []) := by
      intro z43 hm H12 locs12 hP12 hD12 hS12 ls11 hl11
      unfold m_X6_laysPicture_K43 at hm
      refine lv_iload_n hx hb dX6_laysPicture_105 rfl (lv_at hl11 0 rfl) ?_
      obtain ⟨hz0, hm⟩ := ckd hm
      have hnz := nz_nar hz0
      exact eWz (Wf := fun (uu : SV) => wX6 q a uu) (u := z9.2.2) X hr hlocks hnz hP12 hD12 hS12 hm dX6_laysPicture_106
    have hL43 : ∀ (n : Nat) (z43 : Int32 × Int32) (ρ43 : Int32 × Int32), lpO (m_X6_laysPicture_L43 z9) n z43 = some ρ43 → (m_X6_laysPicture_K43 z9) ρ43 = some res → ∀ (H : Heap) (locs : List Loc), va_P D cls (wX6 q a z9.2.2) H → va_D (va_A (wX6 q a v) s.heap.size) (wX6 q a z9.2.2) → va_S (va_A (wX6 q a v) s.heap.size) s.heap H locs → ∀ ls : Array Slot, lv_has ls 5 [(0, .ref (a 99)), (3, .int z43.1), (4, .int z43.2)] → W p l e ((headSpec (mw yX6_laysPicture cX6_laysPicture 5 (some .boolean)) ({ frames := 3, cells := 0, slots := 0, locals := 72 } : Room)).room) s m [.ref (a 99), .int x1].toArray below meth c H locs 0 0 (MQ below (va_Qi (fun r w => r = res.1 ∧ w = res.2) (bW D q (wX6 q a v) s.heap.size (fun (uu : SV) => wX6 q a uu)) (va_A (wX6 q a v) s.heap.size)) [.ref (a 99), .int x1].toArray s 0 0 (va_A (wX6 q a v) s.heap.size)) (F0 m 43 ls []) := by
      intro n
      induction n with
      | zero => intro _ _ h; cases h
      | succ n ih43 =>
        intro z43 ρ43 hz43 hK43 H10 locs10 hP10 hD10 hS10 ls9 hl9
        obtain ⟨t43, hm, hz43⟩ := bn hz43
        unfold m_X6_laysPicture_L43 at hm
        refine lv_iload hx hb dX6_laysPicture_43 (lv_at hl9 2 rfl) ?_
        refine lv_aload_n hx hb dX6_laysPicture_45 rfl (lv_at hl9 0 rfl) ?_
        refine va_get (D := D) (ci := 6) (v := .int (z9.2.2 0 4)) (C := RX6) (T := TX6) (N := 40) hx hb hW iX6 hown hK hP10 0 rfl rfl 4 (by decide) (hW _ k_871) (fun _ h => h) rfl dX6_laysPicture_46 ?_
        refine lv_icmp_ge (tgt := 105) hx hb dX6_laysPicture_49 (by decide) (fun c49 => ?_) (fun c49 => ?_)
        · replace hm := tp hm c49
          cases hm
          cases hz43
          exact hE43 (z43.1, z43.2) hK43 _ _ hP10 hD10 hS10 _ (lv_sub hl9 [1] rfl)
        · replace hm := tn hm c49
          refine lv_iload_n hx hb dX6_laysPicture_52 rfl (lv_at hl9 1 rfl) ?_
          refine lv_if_eq (tgt := 97) hx hb dX6_laysPicture_53 (by decide) (fun c53 => ?_) (fun c53 => ?_)
          · replace hm := tp hm c53
            refine lv_iconst (v := (0 : Int32)) hx hb dX6_laysPicture_97 (by decide) ?_
            refine lv_istore_n (lv' := [(3, .int (0 : Int32)), (0, .ref (a 99)), (4, .int z43.2)]) hx hb dX6_laysPicture_98 rfl hl9 (by decide) rfl (fun ls13 hl13 => ?_)
            clear hl9
            refine lv_iinc (v := (z43.2 + (1 : Int32))) (lv' := [(4, .int (z43.2 + (1 : Int32))), (3, .int (0 : Int32)), (0, .ref (a 99))]) hx hb dX6_laysPicture_99 hl13 (k := 2) rfl rfl (by decide) rfl (fun ls14 hl14 => ?_)
            clear hl13
            refine lv_goto (tgt := 43) hx hb dX6_laysPicture_102 (by decide) ?_
            cases hm
            exact ih43 ((0 : Int32), (z43.2 + (1 : Int32))) ρ43 hz43 hK43 _ _ hP10 hD10 hS10 _ (lv_sub hl14 [2, 1, 0] rfl)
          · replace hm := tn hm c53
            refine lv_aload_n hx hb dX6_laysPicture_56 rfl (lv_at hl9 0 rfl) ?_
            refine lv_aload_n hx hb dX6_laysPicture_57 rfl (lv_at hl9 0 rfl) ?_
            refine va_get (D := D) (ci := 6) (v := .ref (a 30)) (C := RX6) (T := TX6) (N := 40) hx hb hW iX6 hown hK hP10 0 rfl rfl 30 (by decide) (hW _ k_897) (fun _ h => h) rfl dX6_laysPicture_58 ?_
            refine lv_aload_n hx hb dX6_laysPicture_61 rfl (lv_at hl9 0 rfl) ?_
            refine va_get (D := D) (ci := 6) (v := .ref (a 3)) (C := RX6) (T := TX6) (N := 40) hx hb hW iX6 hown hK hP10 0 rfl rfl 3 (by decide) (hW _ k_870) (fun _ h => h) rfl dX6_laysPicture_62 ?_
            refine lv_iconst (v := (2 : Int32)) hx hb dX6_laysPicture_65 (by decide) ?_
            refine lv_iload hx hb dX6_laysPicture_66 (lv_at hl9 2 rfl) ?_
            refine lv_imul hx hb dX6_laysPicture_68 ?_
            obtain ⟨h15, hm⟩ := ckd hm
            refine va_iald (f := (z9.2.2 3)) hx hb hK hP10 2 0 rfl rfl (inB_vp h15) dX6_laysPicture_69 ?_
            obtain ⟨h16, hm⟩ := ckd hm
            refine va_iald (f := (z9.2.2 30)) hx hb hK hP10 11 0 rfl rfl (inB_vp h16) dX6_laysPicture_70 ?_
            refine lv_aload_n hx hb dX6_laysPicture_71 rfl (lv_at hl9 0 rfl) ?_
            refine va_get (D := D) (ci := 6) (v := .ref (a 30)) (C := RX6) (T := TX6) (N := 40) hx hb hW iX6 hown hK hP10 0 rfl rfl 30 (by decide) (hW _ k_897) (fun _ h => h) rfl dX6_laysPicture_72 ?_
            refine lv_aload_n hx hb dX6_laysPicture_75 rfl (lv_at hl9 0 rfl) ?_
            refine va_get (D := D) (ci := 6) (v := .ref (a 3)) (C := RX6) (T := TX6) (N := 40) hx hb hW iX6 hown hK hP10 0 rfl rfl 3 (by decide) (hW _ k_870) (fun _ h => h) rfl dX6_laysPicture_76 ?_
            refine lv_iconst (v := (2 : Int32)) hx hb dX6_laysPicture_79 (by decide) ?_
            refine lv_iload hx hb dX6_laysPicture_80 (lv_at hl9 2 rfl) ?_
            refine lv_imul hx hb dX6_laysPicture_82 ?_
            refine lv_iconst (v := (1 : Int32)) hx hb dX6_laysPicture_83 (by decide) ?_
            refine lv_iadd hx hb dX6_laysPicture_84 ?_
            obtain ⟨h17, hm⟩ := ckd hm
            refine va_iald (f := (z9.2.2 3)) hx hb hK hP10 2 0 rfl rfl (inB_vp h17) dX6_laysPicture_85 ?_
            obtain ⟨h18, hm⟩ := ckd hm
            refine va_iald (f := (z9.2.2 30)) hx hb hK hP10 11 0 rfl rfl (inB_vp h18) dX6_laysPicture_86 ?_
            obtain ⟨y87, hy87, hm⟩ := bn hm
            refine cVRi (As := [.int (z9.2.2 30 (((z9.2.2 3 ((((2 : Int32) * z43.2)).toNatClampNeg))).toNatClampNeg)), .int (z9.2.2 30 (((z9.2.2 3 (((((2 : Int32) * z43.2) + (1 : Int32))).toNatClampNeg))).toNatClampNeg))]) (rest := []) X hP10 hl9.1 (c_X6_areLike l D q a z9.2.2 (z9.2.2 30 (((z9.2.2 3 ((((2 : Int32) * z43.2)).toNatClampNeg))).toNatClampNeg)) (z9.2.2 30 (((z9.2.2 3 (((((2 : Int32) * z43.2) + (1 : Int32))).toNatClampNeg))).toNatClampNeg)) y87 hy87) [0, 1, 2, 3, 4, 5, 6, 7, 8, 9, 10, 11, 12, 13, 14, 15, 16, 17] rfl 0 rfl rfl rfl k_1119 mX6_areLike ⟨rfl, rfl⟩ ⟨Nat.le_of_ble_eq_true rfl, Nat.le_of_ble_eq_true rfl⟩ rfl rfl (Nat.le_of_ble_eq_true rfl) dX6_laysPicture_87 ⟨Nat.zero_le _, Nat.zero_le _⟩ ?_
            refine lv_if_eq (tgt := 97) hx hb dX6_laysPicture_90 (by decide) (fun c90 => ?_) (fun c90 => ?_)
            · replace hm := tp hm c90
              refine lv_iconst (v := (0 : Int32)) hx hb dX6_laysPicture_97 (by decide) ?_
              refine lv_istore_n (lv' := [(3, .int (0 : Int32)), (0, .ref (a 99)), (4, .int z43.2)]) hx hb dX6_laysPicture_98 rfl hl9 (by decide) rfl (fun ls19 hl19 => ?_)
              clear hl9
              refine lv_iinc (v := (z43.2 + (1 : Int32))) (lv' := [(4, .int (z43.2 + (1 : Int32))), (3, .int (0 : Int32)), (0, .ref (a 99))]) hx hb dX6_laysPicture_99 hl19 (k := 2) rfl rfl (by decide) rfl (fun ls20 hl20 => ?_)
              clear hl19
              refine lv_goto (tgt := 43) hx hb dX6_laysPicture_102 (by decide) ?_
              cases hm
              exact ih43 ((0 : Int32), (z43.2 + (1 : Int32))) ρ43 hz43 hK43 _ _ hP10 hD10 hS10 _ (lv_sub hl20 [2, 1, 0] rfl)
            · replace hm := tn hm c90
              refine lv_iconst (v := (1 : Int32)) hx hb dX6_laysPicture_93 (by decide) ?_
              refine lv_goto (tgt := 98) hx hb dX6_laysPicture_94 (by decide) ?_
              refine lv_istore_n (lv' := [(3, .int (1 : Int32)), (0, .ref (a 99)), (4, .int z43.2)]) hx hb dX6_laysPicture_98 rfl hl9 (by decide) rfl (fun ls21 hl21 => ?_)
              clear hl9
              refine lv_iinc (v := (z43.2 + (1 : Int32))) (lv' := [(4, .int (z43.2 + (1 : Int32))), (3, .int (1 : Int32)), (0, .ref (a 99))]) hx hb dX6_laysPicture_99 hl21 (k := 2) rfl rfl (by decide) rfl (fun ls22 hl22 => ?_)
              clear hl21
              refine lv_goto (tgt := 43) hx hb dX6_laysPicture_102 (by decide) ?_
              cases hm
              exact ih43 ((1 : Int32), (z43.2 + (1 : Int32))) ρ43 hz43 hK43 _ _ hP10 hD10 hS10 _ (lv_sub hl22 [2, 1, 0] rfl)
    exact hL43 n43 ((1 : Int32), (0 : Int32)) r43 hn43 hm _ _ hP6 hD6 hS6 _ (lv_sub hl8 [2, 1, 0] rfl)
  have hL9 : ∀ (n : Nat) (z9 : Int32 × Int32 × SV) (ρ9 : Int32 × Int32 × SV), lpO (m_X6_laysPicture_L9) n z9 = some ρ9 → (m_X6_laysPicture_K9) ρ9 = some res → ∀ (H : Heap) (locs : List Loc), va_P D cls (wX6 q a z9.2.2) H → va_D (va_A (wX6 q a v) s.heap.size) (wX6 q a z9.2.2) → va_S (va_A (wX6 q a v) s.heap.size) s.heap H locs → ∀ ls : Array Slot, lv_has ls 5 [(0, .ref (a 99)), (2, .int z9.1), (3, .int z9.2.1)] → W p l e ((headSpec (mw yX6_laysPicture cX6_laysPicture 5 (some .boolean)) ({ frames := 3, cells := 0, slots := 0, locals := 72 } : Room)).room) s m [.ref (a 99), .int x1].toArray below meth c H locs 0 0 (MQ below (va_Qi (fun r w => r = res.1 ∧ w = res.2) (bW D q (wX6 q a v) s.heap.size (fun (uu : SV) => wX6 q a uu)) (va_A (wX6 q a v) s.heap.size)) [.ref (a 99), .int x1].toArray s 0 0 (va_A (wX6 q a v) s.heap.size)) (F0 m 9 ls []) := by
    intro n
    induction n with
    | zero => intro _ _ h; cases h
    | succ n ih9 =>
      intro z9 ρ9 hz9 hK9 H4 locs4 hP4 hD4 hS4 ls3 hl3
      obtain ⟨t9, hm, hz9⟩ := bn hz9
      unfold m_X6_laysPicture_L9 at hm
      refine lv_iload_n hx hb dX6_laysPicture_9 rfl (lv_at hl3 2 rfl) ?_
      refine lv_if_lt (tgt := 38) hx hb dX6_laysPicture_10 (by decide) (fun c10 => ?_) (fun c10 => ?_)
      · replace hm := tp hm c10
        cases hm
        cases hz9
        exact hE9 (z9.1, z9.2.1, z9.2.2) hK9 _ _ hP4 hD4 hS4 _ (lv_sub hl3 [0] rfl)
      · replace hm := tn hm c10
        refine lv_aload_n hx hb dX6_laysPicture_13 rfl (lv_at hl3 0 rfl) ?_
        refine va_get (D := D) (ci := 6) (v := .ref (a 30)) (C := RX6) (T := TX6) (N := 40) hx hb hW iX6 hown hK hP4 0 rfl rfl 30 (by decide) (hW _ k_897) (fun _ h => h) rfl dX6_laysPicture_14 ?_
        refine lv_iload_n hx hb dX6_laysPicture_17 rfl (lv_at hl3 2 rfl) ?_
        refine lv_iload_n hx hb dX6_laysPicture_18 rfl (lv_at hl3 1 rfl) ?_
        refine lv_aload_n hx hb dX6_laysPicture_19 rfl (lv_at hl3 0 rfl) ?_
        refine va_get (D := D) (ci := 6) (v := .int (z9.2.2 0 2)) (C := RX6) (T := TX6) (N := 40) hx hb hW iX6 hown hK hP4 0 rfl rfl 2 (by decide) (hW _ k_869) (fun _ h => h) rfl dX6_laysPicture_20 ?_
        obtain ⟨h23, hm⟩ := ckd hm
        refine lv_irem hx hb dX6_laysPicture_23 (dv_ne h23) ?_
        obtain ⟨h24, hm⟩ := ckd hm
        refine va_iast (f := (z9.2.2 30)) hx hb hK hP4 hD4 hS4 11 0 rfl rfl (inB_vp h24) dX6_laysPicture_24 (fun H25 locs25 hP hD hS25 => ?_)
        obtain ⟨v25_, e25, hm⟩ := ltd hm
        have hP25 : va_P D cls (wX6 q a v25_) H25 := by rw [e25]; exact hP
        have hD25 : va_D (va_A (wX6 q a v) s.heap.size) (wX6 q a v25_) := by rw [e25]; exact hD
        clear hP hD hP4 hD4 hS4
        refine lv_iload_n hx hb dX6_laysPicture_25 rfl (lv_at hl3 1 rfl) ?_
        refine lv_aload_n hx hb dX6_laysPicture_26 rfl (lv_at hl3 0 rfl) ?_
        refine va_get (D := D) (ci := 6) (v := .int (v25_ 0 2)) (C := RX6) (T := TX6) (N := 40) hx hb hW iX6 hown hK hP25 0 rfl rfl 2 (by decide) (hW _ k_869) (fun _ h => h) rfl dX6_laysPicture_27 ?_
        obtain ⟨h26, hm⟩ := ckd hm
        refine lv_idiv hx hb dX6_laysPicture_30 (dv_ne h26) ?_
        refine lv_istore_n (lv' := [(2, .int (z9.1 / (v25_ 0 2))), (0, .ref (a 99)), (3, .int z9.2.1)]) hx hb dX6_laysPicture_31 rfl hl3 (by decide) rfl (fun ls27 hl27 => ?_)
        clear hl3
        refine lv_iinc (v := (z9.2.1 + (-1 : Int32))) (lv' := [(3, .int (z9.2.1 + (-1 : Int32))), (2, .int (z9.1 / (v25_ 0 2))), (0, .ref (a 99))]) hx hb dX6_laysPicture_32 hl27 (k := 2) rfl rfl (by decide) rfl (fun ls28 hl28 => ?_)
        clear hl27
        refine lv_goto (tgt := 9) hx hb dX6_laysPicture_35 (by decide) ?_
        cases hm
        exact ih9 ((z9.1 / (v25_ 0 2)), (z9.2.1 + (-1 : Int32)), v25_) ρ9 hz9 hK9 _ _ hP25 hD25 hS25 _ (lv_sub hl28 [2, 1, 0] rfl)
  exact hL9 n9 (x1, ((v 0 1) - (1 : Int32)), v) r9 hn9 hm _ _ hP0 hD0 hS0 _ (lv_sub hl2 [2, 1, 0] rfl)
noncomputable def m_X6_many_K4 (z4 : Int32 × Int32 × SV) : Option (Int32 × SV) :=
  some (z4.1, z4.2.2)
noncomputable def m_X6_many_L4 (z4 : Int32 × Int32 × SV) : Option ((Int32 × Int32 × SV) ⊕ (Int32 × Int32 × SV)) :=
  (m_X6_pictures z4.2.2).bind (fun y6 => (if y6 ≤ z4.2.1 then some (.inr (z4.1, z4.2.1, z4.2.2)) else (m_X6_laysPicture z4.2.2 z4.2.1).bind (fun y15 => (if y15.1 = 0 then some (.inl ((z4.1 + (0 : Int32)), (z4.2.1 + (1 : Int32)), y15.2)) else some (.inl ((z4.1 + (1 : Int32)), (z4.2.1 + (1 : Int32)), y15.2))))))
noncomputable def m_X6_many (v : SV) : Option (Int32 × SV) :=
  (lpC (m_X6_many_L4) ((0 : Int32), (0 : Int32), v)).bind (m_X6_many_K4)
set_option maxHeartbeats 4000000 in
set_option maxRecDepth 100000 in
theorem c_X6_many (l : Launch) (D : va_G) (q : Nat → ClassId) (sz : Nat) (a : Nat → Nat) (v : SV) (res : Int32 × SV) (hm : m_X6_many v = some res) : Met l yX6_many (mw yX6_many cX6_many 3 (some .int)) ({ frames := 4, cells := 0, slots := 0, locals := 96 } : Room) (pcW D q (wX6 q a v) sz [.ref (a 99)]) (va_Qi (fun r w => r = res.1 ∧ w = res.2) (bW D q (wX6 q a v) sz (fun (uu : SV) => wX6 q a uu)) (va_A (wX6 q a v) sz)) 0 0 (va_A (wX6 q a v) sz) := by
  refine Met.ofW (cc := cX6_many) (maxL := 3) (ret := (some .int)) (by decide) rfl ?_
  intro p e s m args below meth c s₁ B hml hv
  obtain ⟨rfl, hsz, hP0, hK, hD0⟩ := hv
  have hx := B.exec
  have hb := B.bytes
  have hr := B.returns
  have hW := mw_ws (atoms_spec (ws := mw yX6_many cX6_many 3 (some .int)) B.pre)
  have hown : s.vm.findClass RX6 = some m.cls := findClass_of_methodNamed B.named
  have hlocks := B.notSynchronized
  have X : Cx p s m [.ref (a 99)].toArray c cX6_many 3 RX6 D q := ⟨hx, hb, hml, hown, hW, hK⟩
  subst hsz
  replace hD0 := hD0.self (sz := s.heap.size)
  have hS0 : va_S (va_A (wX6 q a v) s.heap.size) s.heap s.heap [] := va_S.rf
  have hl0 := lv_entry ([.ref (a 99)]) (n := 3) (Nat.le_of_ble_eq_true rfl)
  rw [lg_entry_eq]
  generalize (lg_sl ([.ref (a 99)]) ++ List.replicate (3 - (lg_sl ([.ref (a 99)])).length) Slot.unset).toArray = ls0 at hl0 ⊢
  have hl0 : lv_has ls0 3 [(0, .ref (a 99))] := hl0
  unfold m_X6_many at hm
  refine lv_iconst (v := (0 : Int32)) hx hb dX6_many_0 (by decide) ?_
  refine lv_istore_n (lv' := [(1, .int (0 : Int32)), (0, .ref (a 99))]) hx hb dX6_many_1 rfl hl0 (by decide) rfl (fun ls1 hl1 => ?_)
  clear hl0
  refine lv_iconst (v := (0 : Int32)) hx hb dX6_many_2 (by decide) ?_
  refine lv_istore_n (lv' := [(2, .int (0 : Int32)), (1, .int (0 : Int32)), (0, .ref (a 99))]) hx hb dX6_many_3 rfl hl1 (by decide) rfl (fun ls2 hl2 => ?_)
  clear hl1
  obtain ⟨r4, hr4, hm⟩ := bn hm
  obtain ⟨n4, hn4⟩ := lpC_ex hr4
  have hE4 : ∀ z4 : Int32 × Int32 × SV, m_X6_many_K4 z4 = some res → ∀ (H : Heap) (locs : List Loc), va_P D cls (wX6 q a z4.2.2) H → va_D (va_A (wX6 q a v) s.heap.size) (wX6 q a z4.2.2) → va_S (va_A (wX6 q a v) s.heap.size) s.heap H locs → ∀ ls : Array Slot, lv_has ls 3 [(1, .int z4.1)] → W p l e ((headSpec (mw yX6_many cX6_many 3 (some .int)) ({ frames := 4, cells := 0, slots := 0, locals := 96 } : Room)).room) s m [.ref (a 99)].toArray below meth c H locs 0 0 (MQ below (va_Qi (fun r w => r = res.1 ∧ w = res.2) (bW D q (wX6 q a v) s.heap.size (fun (uu : SV) => wX6 q a uu)) (va_A (wX6 q a v) s.heap.size)) [.ref (a 99)].toArray s 0 0 (va_A (wX6 q a v) s.heap.size)) (F0 m 34 ls []) := by
    intro z4 hm H6 locs6 hP6 hD6 hS6 ls5 hl5
    unfold m_X6_many_K4 at hm
    refine lv_iload_n hx hb dX6_many_34 rfl (lv_at hl5 0 rfl) ?_
    exact eWi (Wf := fun (uu : SV) => wX6 q a uu) (u := z4.2.2) X hr hlocks hP6 hD6 hS6 hm dX6_many_35
  have hL4 : ∀ (n : Nat) (z4 : Int32 × Int32 × SV) (ρ4 : Int32 × Int32 × SV), lpO (m_X6_many_L4) n z4 = some ρ4 → (m_X6_many_K4) ρ4 = some res → ∀ (H : Heap) (locs : List Loc), va_P D cls (wX6 q a z4.2.2) H → va_D (va_A (wX6 q a v) s.heap.size) (wX6 q a z4.2.2) → va_S (va_A (wX6 q a v) s.heap.size) s.heap H locs → ∀ ls : Array Slot, lv_has ls 3 [(0, .ref (a 99)), (1, .int z4.1), (2, .int z4.2.1)] → W p l e ((headSpec (mw yX6_many cX6_many 3 (some .int)) ({ frames := 4, cells := 0, slots := 0, locals := 96 } : Room)).room) s m [.ref (a 99)].toArray below meth c H locs 0 0 (MQ below (va_Qi (fun r w => r = res.1 ∧ w = res.2) (bW D q (wX6 q a v) s.heap.size (fun (uu : SV) => wX6 q a uu)) (va_A (wX6 q a v) s.heap.size)) [.ref (a 99)].toArray s 0 0 (va_A (wX6 q a v) s.heap.size)) (F0 m 4 ls []) := by
    intro n
    induction n with
    | zero => intro _ _ h; cases h
    | succ n ih4 =>
      intro z4 ρ4 hz4 hK4 H4 locs4 hP4 hD4 hS4 ls3 hl3
      obtain ⟨t4, hm, hz4⟩ := bn hz4
      unfold m_X6_many_L4 at hm
      refine lv_iload_n hx hb dX6_many_4 rfl (lv_at hl3 2 rfl) ?_
      refine lv_aload_n hx hb dX6_many_5 rfl (lv_at hl3 0 rfl) ?_
      obtain ⟨y6, hy6, hm⟩ := bn hm
      refine cVRi (As := []) (rest := [.int z4.2.1]) X hP4 hl3.1 (c_X6_pictures l D q a z4.2.2 y6 hy6) [0, 1, 2, 3, 4, 5, 6, 7, 8, 9, 10, 11, 12, 13, 14, 15, 16, 17] rfl 0 rfl rfl rfl k_1199 mX6_pictures ⟨rfl, rfl⟩ ⟨Nat.le_of_ble_eq_true rfl, Nat.le_of_ble_eq_true rfl⟩ rfl rfl (Nat.le_of_ble_eq_true rfl) dX6_many_6 ⟨Nat.zero_le _, Nat.zero_le _⟩ ?_
      refine lv_icmp_ge (tgt := 34) hx hb dX6_many_9 (by decide) (fun c9 => ?_) (fun c9 => ?_)
      · replace hm := tp hm c9
        cases hm
        cases hz4
        exact hE4 (z4.1, z4.2.1, z4.2.2) hK4 _ _ hP4 hD4 hS4 _ (lv_sub hl3 [1] rfl)
      · replace hm := tn hm c9
        refine lv_iload_n hx hb dX6_many_12 rfl (lv_at hl3 1 rfl) ?_
        refine lv_aload_n hx hb dX6_many_13 rfl (lv_at hl3 0 rfl) ?_
        refine lv_iload_n hx hb dX6_many_14 rfl (lv_at hl3 2 rfl) ?_
        obtain ⟨y15, hy15, hm⟩ := bn hm
        refine cVWi (As := [.int z4.2.1]) (rest := [.int z4.1]) (Wn := fun (uu : SV) => wX6 q a uu) X hP4 hD4 hS4 (fun _ h => Or.inr h) hl3.1 (c_X6_laysPicture l D q H4.size a z4.2.2 z4.2.1 y15 hy15) [0, 1, 2, 3, 4, 5, 6, 7, 8, 9, 10, 11, 12, 13, 14, 15, 16, 17] [] [0, 1, 2, 3, 4, 5, 6, 7, 8, 9, 10, 11, 12, 13, 14, 15, 16, 17] rfl (Wr := []) rfl (by decide) (by decide) (by decide) (by decide) (fun _ => rfl) 0 rfl rfl rfl k_1203 mX6_laysPicture ⟨rfl, rfl⟩ ⟨Nat.le_of_ble_eq_true rfl, Nat.le_of_ble_eq_true rfl⟩ rfl rfl (Nat.le_of_ble_eq_true rfl) dX6_many_15 ⟨Nat.zero_le _, Nat.zero_le _⟩ (fun H7 locs7 hP hD hS7 => ?_)
        have hP7 : va_P D cls (wX6 q a y15.2) H7 := hP
        have hD7 : va_D (va_A (wX6 q a v) s.heap.size) (wX6 q a y15.2) := hD
        clear hP hD hP4 hD4 hS4
        refine lv_if_eq (tgt := 25) hx hb dX6_many_18 (by decide) (fun c18 => ?_) (fun c18 => ?_)
        · replace hm := tp hm c18
          refine lv_iconst (v := (0 : Int32)) hx hb dX6_many_25 (by decide) ?_
          refine lv_iadd hx hb dX6_many_26 ?_
          refine lv_istore_n (lv' := [(1, .int (z4.1 + (0 : Int32))), (0, .ref (a 99)), (2, .int z4.2.1)]) hx hb dX6_many_27 rfl hl3 (by decide) rfl (fun ls8 hl8 => ?_)
          clear hl3
          refine lv_iinc (v := (z4.2.1 + (1 : Int32))) (lv' := [(2, .int (z4.2.1 + (1 : Int32))), (1, .int (z4.1 + (0 : Int32))), (0, .ref (a 99))]) hx hb dX6_many_28 hl8 (k := 2) rfl rfl (by decide) rfl (fun ls9 hl9 => ?_)
          clear hl8
          refine lv_goto (tgt := 4) hx hb dX6_many_31 (by decide) ?_
          cases hm
          exact ih4 ((z4.1 + (0 : Int32)), (z4.2.1 + (1 : Int32)), y15.2) ρ4 hz4 hK4 _ _ hP7 hD7 hS7 _ (lv_sub hl9 [2, 1, 0] rfl)
        · replace hm := tn hm c18
          refine lv_iconst (v := (1 : Int32)) hx hb dX6_many_21 (by decide) ?_
          refine lv_goto (tgt := 26) hx hb dX6_many_22 (by decide) ?_
          refine lv_iadd hx hb dX6_many_26 ?_
          refine lv_istore_n (lv' := [(1, .int (z4.1 + (1 : Int32))), (0, .ref (a 99)), (2, .int z4.2.1)]) hx hb dX6_many_27 rfl hl3 (by decide) rfl (fun ls10 hl10 => ?_)
          clear hl3
          refine lv_iinc (v := (z4.2.1 + (1 : Int32))) (lv' := [(2, .int (z4.2.1 + (1 : Int32))), (1, .int (z4.1 + (1 : Int32))), (0, .ref (a 99))]) hx hb dX6_many_28 hl10 (k := 2) rfl rfl (by decide) rfl (fun ls11 hl11 => ?_)
          clear hl10
          refine lv_goto (tgt := 4) hx hb dX6_many_31 (by decide) ?_
          cases hm
          exact ih4 ((z4.1 + (1 : Int32)), (z4.2.1 + (1 : Int32)), y15.2) ρ4 hz4 hK4 _ _ hP7 hD7 hS7 _ (lv_sub hl11 [2, 1, 0] rfl)
  exact hL4 n4 ((0 : Int32), (0 : Int32), v) r4 hn4 hm _ _ hP0 hD0 hS0 _ (lv_sub hl2 [2, 1, 0] rfl)
noncomputable def m_X6_mend_K22 (x1 : Int32) (z22 : Int32 × Int32 × Int32 × SV) : Option (Int32 × SV) :=
  (if z22.2.1 = (-4 : Int32) then some (z22.2.1, z22.2.2.2) else (if x1 = (1 : Int32) then some (z22.2.1, z22.2.2.2) else some (z22.1, z22.2.2.2)))
noncomputable def m_X6_mend_K46 (z22 : Int32 × Int32 × Int32 × SV) (y34 : Int32 × SV) (z46 : Int32 × Int32) : Option ((Int32 × Int32 × Int32 × SV) ⊕ (Int32 × Int32 × Int32 × SV)) :=
  (if z22.1 ≤ z46.1 then (if z22.1 ≤ z46.1 then some (.inl (z22.1, z22.2.1, (z22.2.2.1 + (1 : Int32)), y34.2)) else some (.inl (z46.1, z22.2.1, (z22.2.2.1 + (1 : Int32)), y34.2))) else (if z22.1 ≤ z46.1 then some (.inl (z22.1, z22.2.2.1, (z22.2.2.1 + (1 : Int32)), y34.2)) else some (.inl (z46.1, z22.2.2.1, (z22.2.2.1 + (1 : Int32)), y34.2))))
noncomputable def m_X6_mend_L46 (y34 : Int32 × SV) (z46 : Int32 × Int32) : Option ((Int32 × Int32) ⊕ (Int32 × Int32)) :=
  (if (y34.2 0 1) ≤ z46.2 then some (.inr (z46.1, z46.2)) else (m_X6_topOn y34.2 (0 : Int32) z46.2).bind (fun y61 => ck (inB z46.2 6) ((if y61 = (y34.2 30 ((z46.2).toNatClampNeg)) then some (.inl ((z46.1 + (0 : Int32)), (z46.2 + (1 : Int32)))) else some (.inl ((z46.1 + (1 : Int32)), (z46.2 + (1 : Int32))))))))
noncomputable def m_X6_mend_L22 (z22 : Int32 × Int32 × Int32 × SV) : Option ((Int32 × Int32 × Int32 × SV) ⊕ (Int32 × Int32 × Int32 × SV)) :=
  (m_X6_pictures z22.2.2.2).bind (fun y25 => (if y25 ≤ z22.2.2.1 then some (.inr (z22.1, z22.2.1, z22.2.2.1, z22.2.2.2)) else (m_X6_laysPicture z22.2.2.2 z22.2.2.1).bind (fun y34 => (if y34.1 = 0 then some (.inl (z22.1, z22.2.1, (z22.2.2.1 + (1 : Int32)), y34.2)) else (lpC (m_X6_mend_L46 y34) ((0 : Int32), (0 : Int32))).bind (m_X6_mend_K46 z22 y34)))))
noncomputable def m_X6_mend (v : SV) (x1 : Int32) : Option (Int32 × SV) :=
  (m_X6_in (x1.toInt64) (0 : Int64) (1 : Int64)).bind (fun y4 => (if y4 = 0 then some ((-1 : Int32), v) else (lpC (m_X6_mend_L22) ((1000000 : Int32), (-4 : Int32), (0 : Int32), v)).bind (m_X6_mend_K22 x1)))
set_option maxHeartbeats 4000000 in
set_option maxRecDepth 100000 in
theorem c_X6_mend (l : Launch) (D : va_G) (q : Nat → ClassId) (sz : Nat) (a : Nat → Nat) (v : SV) (x1 : Int32) (res : Int32 × SV) (hm : m_X6_mend v x1 = some res) : Met l yX6_mend (mw yX6_mend cX6_mend 7 (some .int)) ({ frames := 4, cells := 0, slots := 0, locals := 96 } : Room) (pcW D q (wX6 q a v) sz [.ref (a 99), .int x1]) (va_Qi (fun r w => r = res.1 ∧ w = res.2) (bW D q (wX6 q a v) sz (fun (uu : SV) => wX6 q a uu)) (va_A (wX6 q a v) sz)) 0 0 (va_A (wX6 q a v) sz) := by
  refine Met.ofW (cc := cX6_mend) (maxL := 7) (ret := (some .int)) (by decide) rfl ?_
  intro p e s m args below meth c s₁ B hml hv
  obtain ⟨rfl, hsz, hP0, hK, hD0⟩ := hv
  have hx := B.exec
  have hb := B.bytes
  have hr := B.returns
  have hW := mw_ws (atoms_spec (ws := mw yX6_mend cX6_mend 7 (some .int)) B.pre)
  have hown : s.vm.findClass RX6 = some m.cls := findClass_of_methodNamed B.named
  have hlocks := B.notSynchronized
  have X : Cx p s m [.ref (a 99), .int x1].toArray c cX6_mend 7 RX6 D q := ⟨hx, hb, hml, hown, hW, hK⟩
  subst hsz
  replace hD0 := hD0.self (sz := s.heap.size)
  have hS0 : va_S (va_A (wX6 q a v) s.heap.size) s.heap s.heap [] := va_S.rf
  have hl0 := lv_entry ([.ref (a 99), .int x1]) (n := 7) (Nat.le_of_ble_eq_true rfl)
  rw [lg_entry_eq]
  generalize (lg_sl ([.ref (a 99), .int x1]) ++ List.replicate (7 - (lg_sl ([.ref (a 99), .int x1])).length) Slot.unset).toArray = ls0 at hl0 ⊢
  have hl0 : lv_has ls0 7 [(0, .ref (a 99)), (1, .int x1)] := hl0
  unfold m_X6_mend at hm
  refine lv_iload_n hx hb dX6_mend_0 rfl (lv_at hl0 1 rfl) ?_
  refine lv_i2l hx hb dX6_mend_1 rfl ?_
  refine lv_lconst (v := (0 : Int64)) hx hb dX6_mend_2 (by decide) ?_
  refine lv_lconst (v := (1 : Int64)) hx hb dX6_mend_3 (by decide) ?_
  obtain ⟨y4, hy4, hm⟩ := bn hm
  refine cSRi (As := [.long (x1.toInt64), .long (0 : Int64), .long (1 : Int64)]) (rest := []) X hP0 hl0.1 (c_X6_in l D q (x1.toInt64) (0 : Int64) (1 : Int64) y4 hy4) [] rfl k_993 mX6_in ⟨rfl, rfl⟩ ⟨Nat.le_of_ble_eq_true rfl, Nat.le_of_ble_eq_true rfl⟩ rfl rfl (Nat.le_of_ble_eq_true rfl) dX6_mend_4 ⟨Nat.zero_le _, Nat.zero_le _⟩ ?_
  refine lv_if_ne (tgt := 12) hx hb dX6_mend_7 (by decide) (fun c7 => ?_) (fun c7 => ?_)
  · replace hm := tn hm c7
    refine lv_ldcw (v := (1000000 : Int32)) hx hb hown (hW _ k_1211) dX6_mend_12 ?_
    refine lv_istore_n (lv' := [(2, .int (1000000 : Int32)), (0, .ref (a 99)), (1, .int x1)]) hx hb dX6_mend_15 rfl hl0 (by decide) rfl (fun ls1 hl1 => ?_)
    clear hl0
    refine lv_bipush (v := (-4 : Int32)) hx hb dX6_mend_16 (by decide) ?_
    refine lv_istore_n (lv' := [(3, .int (-4 : Int32)), (2, .int (1000000 : Int32)), (0, .ref (a 99)), (1, .int x1)]) hx hb dX6_mend_18 rfl hl1 (by decide) rfl (fun ls2 hl2 => ?_)
    clear hl1
    refine lv_iconst (v := (0 : Int32)) hx hb dX6_mend_19 (by decide) ?_
    refine lv_istore (lv' := [(4, .int (0 : Int32)), (3, .int (-4 : Int32)), (2, .int (1000000 : Int32)), (0, .ref (a 99)), (1, .int x1)]) hx hb dX6_mend_20 hl2 (by decide) rfl (fun ls3 hl3 => ?_)
    clear hl2
    obtain ⟨r22, hr22, hm⟩ := bn hm
    obtain ⟨n22, hn22⟩ := lpC_ex hr22
    have hE22 : ∀ z22 : Int32 × Int32 × Int32 × SV, m_X6_mend_K22 x1 z22 = some res → ∀ (H : Heap) (locs : List Loc), va_P D cls (wX6 q a z22.2.2.2) H → va_D (va_A (wX6 q a v) s.heap.size) (wX6 q a z22.2.2.2) → va_S (va_A (wX6 q a v) s.heap.size) s.heap H locs → ∀ ls : Array Slot, lv_has ls 7 [(1, .int x1), (2, .int z22.1), (3, .int z22.2.1)] → W p l e ((headSpec (mw yX6_mend cX6_mend 7 (some .int)) ({ frames := 4, cells := 0, slots := 0, locals := 96 } : Room)).room) s m [.ref (a 99), .int x1].toArray below meth c H locs 0 0 (MQ below (va_Qi (fun r w => r = res.1 ∧ w = res.2) (bW D q (wX6 q a v) s.heap.size (fun (uu : SV) => wX6 q a uu)) (va_A (wX6 q a v) s.heap.size)) [.ref (a 99), .int x1].toArray s 0 0 (va_A (wX6 q a v) s.heap.size)) (F0 m 120 ls []) := by
      intro z22 hm H7 locs7 hP7 hD7 hS7 ls6 hl6
      unfold m_X6_mend_K22 at hm
      refine lv_iload_n hx hb dX6_mend_120 rfl (lv_at hl6 2 rfl) ?_
      refine lv_bipush (v := (-4 : Int32)) hx hb dX6_mend_121 (by decide) ?_
      refine lv_icmp_eq (tgt := 131) hx hb dX6_mend_123 (by decide) (fun c123 => ?_) (fun c123 => ?_)
      · replace hm := tp hm c123
        refine lv_iload_n hx hb dX6_mend_131 rfl (lv_at hl6 2 rfl) ?_
        refine lv_goto (tgt := 136) hx hb dX6_mend_132 (by decide) ?_
        exact eWi (Wf := fun (uu : SV) => wX6 q a uu) (u := z22.2.2.2) X hr hlocks hP7 hD7 hS7 hm dX6_mend_136
      · replace hm := tn hm c123
        refine lv_iload_n hx hb dX6_mend_126 rfl (lv_at hl6 0 rfl) ?_
        refine lv_iconst (v := (1 : Int32)) hx hb dX6_mend_127 (by decide) ?_
        refine lv_icmp_ne (tgt := 135) hx hb dX6_mend_128 (by decide) (fun c128 => ?_) (fun c128 => ?_)
        · replace hm := tn hm c128
          refine lv_iload_n hx hb dX6_mend_135 rfl (lv_at hl6 1 rfl) ?_
          exact eWi (Wf := fun (uu : SV) => wX6 q a uu) (u := z22.2.2.2) X hr hlocks hP7 hD7 hS7 hm dX6_mend_136
        · replace hm := tp hm c128
          refine lv_iload_n hx hb dX6_mend_131 rfl (lv_at hl6 2 rfl) ?_
          refine lv_goto (tgt := 136) hx hb dX6_mend_132 (by decide) ?_
          exact eWi (Wf := fun (uu : SV) => wX6 q a uu) (u := z22.2.2.2) X hr hlocks hP7 hD7 hS7 hm dX6_mend_136
    have hL22 : ∀ (n : Nat) (z22 : Int32 × Int32 × Int32 × SV) (ρ22 : Int32 × Int32 × Int32 × SV), lpO (m_X6_mend_L22) n z22 = some ρ22 → (m_X6_mend_K22 x1) ρ22 = some res → ∀ (H : Heap) (locs : List Loc), va_P D cls (wX6 q a z22.2.2.2) H → va_D (va_A (wX6 q a v) s.heap.size) (wX6 q a z22.2.2.2) → va_S (va_A (wX6 q a v) s.heap.size) s.heap H locs → ∀ ls : Array Slot, lv_has ls 7 [(0, .ref (a 99)), (1, .int x1), (2, .int z22.1), (3, .int z22.2.1), (4, .int z22.2.2.1)] → W p l e ((headSpec (mw yX6_mend cX6_mend 7 (some .int)) ({ frames := 4, cells := 0, slots := 0, locals := 96 } : Room)).room) s m [.ref (a 99), .int x1].toArray below meth c H locs 0 0 (MQ below (va_Qi (fun r w => r = res.1 ∧ w = res.2) (bW D q (wX6 q a v) s.heap.size (fun (uu : SV) => wX6 q a uu)) (va_A (wX6 q a v) s.heap.size)) [.ref (a 99), .int x1].toArray s 0 0 (va_A (wX6 q a v) s.heap.size)) (F0 m 22 ls []) := by
      intro n
      induction n with
      | zero => intro _ _ h; cases h
      | succ n ih22 =>
        intro z22 ρ22 hz22 hK22 H5 locs5 hP5 hD5 hS5 ls4 hl4
        obtain ⟨t22, hm, hz22⟩ := bn hz22
        unfold m_X6_mend_L22 at hm
        refine lv_iload hx hb dX6_mend_22 (lv_at hl4 4 rfl) ?_
        refine lv_aload_n hx hb dX6_mend_24 rfl (lv_at hl4 0 rfl) ?_
        obtain ⟨y25, hy25, hm⟩ := bn hm
        refine cVRi (As := []) (rest := [.int z22.2.2.1]) X hP5 hl4.1 (c_X6_pictures l D q a z22.2.2.2 y25 hy25) [0, 1, 2, 3, 4, 5, 6, 7, 8, 9, 10, 11, 12, 13, 14, 15, 16, 17] rfl 0 rfl rfl rfl k_1199 mX6_pictures ⟨rfl, rfl⟩ ⟨Nat.le_of_ble_eq_true rfl, Nat.le_of_ble_eq_true rfl⟩ rfl rfl (Nat.le_of_ble_eq_true rfl) dX6_mend_25 ⟨Nat.zero_le _, Nat.zero_le _⟩ ?_
        refine lv_icmp_ge (tgt := 120) hx hb dX6_mend_28 (by decide) (fun c28 => ?_) (fun c28 => ?_)
        · replace hm := tp hm c28
          cases hm
          cases hz22
          exact hE22 (z22.1, z22.2.1, z22.2.2.1, z22.2.2.2) hK22 _ _ hP5 hD5 hS5 _ (lv_sub hl4 [1, 2, 3] rfl)
        · replace hm := tn hm c28
          refine lv_aload_n hx hb dX6_mend_31 rfl (lv_at hl4 0 rfl) ?_
          refine lv_iload hx hb dX6_mend_32 (lv_at hl4 4 rfl) ?_
          obtain ⟨y34, hy34, hm⟩ := bn hm
          refine cVWi (As := [.int z22.2.2.1]) (rest := []) (Wn := fun (uu : SV) => wX6 q a uu) X hP5 hD5 hS5 (fun _ h => Or.inr h) hl4.1 (c_X6_laysPicture l D q H5.size a z22.2.2.2 z22.2.2.1 y34 hy34) [0, 1, 2, 3, 4, 5, 6, 7, 8, 9, 10, 11, 12, 13, 14, 15, 16, 17] [] [0, 1, 2, 3, 4, 5, 6, 7, 8, 9, 10, 11, 12, 13, 14, 15, 16, 17] rfl (Wr := []) rfl (by decide) (by decide) (by decide) (by decide) (fun _ => rfl) 0 rfl rfl rfl k_1203 mX6_laysPicture ⟨rfl, rfl⟩ ⟨Nat.le_of_ble_eq_true rfl, Nat.le_of_ble_eq_true rfl⟩ rfl rfl (Nat.le_of_ble_eq_true rfl) dX6_mend_34 ⟨Nat.zero_le _, Nat.zero_le _⟩ (fun H8 locs8 hP hD hS8 => ?_)
          have hP8 : va_P D cls (wX6 q a y34.2) H8 := hP
          have hD8 : va_D (va_A (wX6 q a v) s.heap.size) (wX6 q a y34.2) := hD
          clear hP hD hP5 hD5 hS5
          refine lv_if_eq (tgt := 114) hx hb dX6_mend_37 (by decide) (fun c37 => ?_) (fun c37 => ?_)
          · replace hm := tp hm c37
            refine lv_iinc (v := (z22.2.2.1 + (1 : Int32))) (lv' := [(4, .int (z22.2.2.1 + (1 : Int32))), (0, .ref (a 99)), (1, .int x1), (2, .int z22.1), (3, .int z22.2.1)]) hx hb dX6_mend_114 hl4 (k := 4) rfl rfl (by decide) rfl (fun ls9 hl9 => ?_)
            clear hl4
            refine lv_goto (tgt := 22) hx hb dX6_mend_117 (by decide) ?_
            cases hm
            exact ih22 (z22.1, z22.2.1, (z22.2.2.1 + (1 : Int32)), y34.2) ρ22 hz22 hK22 _ _ hP8 hD8 hS8 _ (lv_sub hl9 [1, 2, 3, 4, 0] rfl)
          · replace hm := tn hm c37
            refine lv_iconst (v := (0 : Int32)) hx hb dX6_mend_40 (by decide) ?_
            refine lv_istore (lv' := [(5, .int (0 : Int32)), (0, .ref (a 99)), (1, .int x1), (2, .int z22.1), (3, .int z22.2.1), (4, .int z22.2.2.1)]) hx hb dX6_mend_41 hl4 (by decide) rfl (fun ls10 hl10 => ?_)
            clear hl4
            refine lv_iconst (v := (0 : Int32)) hx hb dX6_mend_43 (by decide) ?_
            refine lv_istore (lv' := [(6, .int (0 : Int32)), (5, .int (0 : Int32)), (0, .ref (a 99)), (1, .int x1), (2, .int z22.1), (3, .int z22.2.1), (4, .int z22.2.2.1)]) hx hb dX6_mend_44 hl10 (by decide) rfl (fun ls11 hl11 => ?_)
            clear hl10
            obtain ⟨r46, hr46, hm⟩ := bn hm
            obtain ⟨n46, hn46⟩ := lpC_ex hr46
            have hE46 : ∀ z46 : Int32 × Int32, m_X6_mend_K46 z22 y34 z46 = some t22 → ∀ (H : Heap) (locs : List Loc), va_P D cls (wX6 q a y34.2) H → va_D (va_A (wX6 q a v) s.heap.size) (wX6 q a y34.2) → va_S (va_A (wX6 q a v) s.heap.size) s.heap H locs → ∀ ls : Array Slot, lv_has ls 7 [(0, .ref (a 99)), (1, .int x1), (2, .int z22.1), (3, .int z22.2.1), (4, .int z22.2.2.1), (5, .int z46.1)] → W p l e ((headSpec (mw yX6_mend cX6_mend 7 (some .int)) ({ frames := 4, cells := 0, slots := 0, locals := 96 } : Room)).room) s m [.ref (a 99), .int x1].toArray below meth c H locs 0 0 (MQ below (va_Qi (fun r w => r = res.1 ∧ w = res.2) (bW D q (wX6 q a v) s.heap.size (fun (uu : SV) => wX6 q a uu)) (va_A (wX6 q a v) s.heap.size)) [.ref (a 99), .int x1].toArray s 0 0 (va_A (wX6 q a v) s.heap.size)) (F0 m 88 ls []) := by
              intro z46 hm H15 locs15 hP15 hD15 hS15 ls14 hl14
              unfold m_X6_mend_K46 at hm
              refine lv_iload hx hb dX6_mend_88 (lv_at hl14 5 rfl) ?_
              refine lv_iload_n hx hb dX6_mend_90 rfl (lv_at hl14 2 rfl) ?_
              refine lv_icmp_ge (tgt := 99) hx hb dX6_mend_91 (by decide) (fun c91 => ?_) (fun c91 => ?_)
              · replace hm := tp hm c91
                refine lv_iload_n hx hb dX6_mend_99 rfl (lv_at hl14 3 rfl) ?_
                refine lv_istore_n (lv' := [(3, .int z22.2.1), (0, .ref (a 99)), (1, .int x1), (2, .int z22.1), (4, .int z22.2.2.1), (5, .int z46.1)]) hx hb dX6_mend_100 rfl hl14 (by decide) rfl (fun ls16 hl16 => ?_)
                clear hl14
                refine lv_iload hx hb dX6_mend_101 (lv_at hl16 5 rfl) ?_
                refine lv_iload_n hx hb dX6_mend_103 rfl (lv_at hl16 3 rfl) ?_
                refine lv_icmp_ge (tgt := 112) hx hb dX6_mend_104 (by decide) (fun c104 => ?_) (fun c104 => ?_)
                · replace hm := tp hm c104
                  refine lv_iload_n hx hb dX6_mend_112 rfl (lv_at hl16 3 rfl) ?_
                  refine lv_istore_n (lv' := [(2, .int z22.1), (3, .int z22.2.1), (0, .ref (a 99)), (1, .int x1), (4, .int z22.2.2.1), (5, .int z46.1)]) hx hb dX6_mend_113 rfl hl16 (by decide) rfl (fun ls17 hl17 => ?_)
                  clear hl16
                  refine lv_iinc (v := (z22.2.2.1 + (1 : Int32))) (lv' := [(4, .int (z22.2.2.1 + (1 : Int32))), (2, .int z22.1), (3, .int z22.2.1), (0, .ref (a 99)), (1, .int x1), (5, .int z46.1)]) hx hb dX6_mend_114 hl17 (k := 4) rfl rfl (by decide) rfl (fun ls18 hl18 => ?_)
                  clear hl17
                  refine lv_goto (tgt := 22) hx hb dX6_mend_117 (by decide) ?_
                  cases hm
                  exact ih22 (z22.1, z22.2.1, (z22.2.2.1 + (1 : Int32)), y34.2) ρ22 hz22 hK22 _ _ hP15 hD15 hS15 _ (lv_sub hl18 [3, 4, 1, 2, 0] rfl)
                · replace hm := tn hm c104
                  refine lv_iload hx hb dX6_mend_107 (lv_at hl16 5 rfl) ?_
                  refine lv_goto (tgt := 113) hx hb dX6_mend_109 (by decide) ?_
                  refine lv_istore_n (lv' := [(2, .int z46.1), (3, .int z22.2.1), (0, .ref (a 99)), (1, .int x1), (4, .int z22.2.2.1), (5, .int z46.1)]) hx hb dX6_mend_113 rfl hl16 (by decide) rfl (fun ls19 hl19 => ?_)
                  clear hl16
                  refine lv_iinc (v := (z22.2.2.1 + (1 : Int32))) (lv' := [(4, .int (z22.2.2.1 + (1 : Int32))), (2, .int z46.1), (3, .int z22.2.1), (0, .ref (a 99)), (1, .int x1), (5, .int z46.1)]) hx hb dX6_mend_114 hl19 (k := 4) rfl rfl (by decide) rfl (fun ls20 hl20 => ?_)
                  clear hl19
                  refine lv_goto (tgt := 22) hx hb dX6_mend_117 (by decide) ?_
                  cases hm
                  exact ih22 (z46.1, z22.2.1, (z22.2.2.1 + (1 : Int32)), y34.2) ρ22 hz22 hK22 _ _ hP15 hD15 hS15 _ (lv_sub hl20 [3, 4, 1, 2, 0] rfl)
              · replace hm := tn hm c91
                refine lv_iload hx hb dX6_mend_94 (lv_at hl14 4 rfl) ?_
                refine lv_goto (tgt := 100) hx hb dX6_mend_96 (by decide) ?_
                refine lv_istore_n (lv' := [(3, .int z22.2.2.1), (0, .ref (a 99)), (1, .int x1), (2, .int z22.1), (4, .int z22.2.2.1), (5, .int z46.1)]) hx hb dX6_mend_100 rfl hl14 (by decide) rfl (fun ls21 hl21 => ?_)
                clear hl14
                refine lv_iload hx hb dX6_mend_101 (lv_at hl21 5 rfl) ?_
                refine lv_iload_n hx hb dX6_mend_103 rfl (lv_at hl21 3 rfl) ?_
                refine lv_icmp_ge (tgt := 112) hx hb dX6_mend_104 (by decide) (fun c104 => ?_) (fun c104 => ?_)
                · replace hm := tp hm c104
                  refine lv_iload_n hx hb dX6_mend_112 rfl (lv_at hl21 3 rfl) ?_
                  refine lv_istore_n (lv' := [(2, .int z22.1), (3, .int z22.2.2.1), (0, .ref (a 99)), (1, .int x1), (4, .int z22.2.2.1), (5, .int z46.1)]) hx hb dX6_mend_113 rfl hl21 (by decide) rfl (fun ls22 hl22 => ?_)
                  clear hl21
                  refine lv_iinc (v := (z22.2.2.1 + (1 : Int32))) (lv' := [(4, .int (z22.2.2.1 + (1 : Int32))), (2, .int z22.1), (3, .int z22.2.2.1), (0, .ref (a 99)), (1, .int x1), (5, .int z46.1)]) hx hb dX6_mend_114 hl22 (k := 4) rfl rfl (by decide) rfl (fun ls23 hl23 => ?_)
                  clear hl22
                  refine lv_goto (tgt := 22) hx hb dX6_mend_117 (by decide) ?_
                  cases hm
                  exact ih22 (z22.1, z22.2.2.1, (z22.2.2.1 + (1 : Int32)), y34.2) ρ22 hz22 hK22 _ _ hP15 hD15 hS15 _ (lv_sub hl23 [3, 4, 1, 2, 0] rfl)
                · replace hm := tn hm c104
                  refine lv_iload hx hb dX6_mend_107 (lv_at hl21 5 rfl) ?_
                  refine lv_goto (tgt := 113) hx hb dX6_mend_109 (by decide) ?_
                  refine lv_istore_n (lv' := [(2, .int z46.1), (3, .int z22.2.2.1), (0, .ref (a 99)), (1, .int x1), (4, .int z22.2.2.1), (5, .int z46.1)]) hx hb dX6_mend_113 rfl hl21 (by decide) rfl (fun ls24 hl24 => ?_)
                  clear hl21
                  refine lv_iinc (v := (z22.2.2.1 + (1 : Int32))) (lv' := [(4, .int (z22.2.2.1 + (1 : Int32))), (2, .int z46.1), (3, .int z22.2.2.1), (0, .ref (a 99)), (1, .int x1), (5, .int z46.1)]) hx hb dX6_mend_114 hl24 (k := 4) rfl rfl (by decide) rfl (fun ls25 hl25 => ?_)
                  clear hl24
                  refine lv_goto (tgt := 22) hx hb dX6_mend_117 (by decide) ?_
                  cases hm
                  exact ih22 (z46.1, z22.2.2.1, (z22.2.2.1 + (1 : Int32)), y34.2) ρ22 hz22 hK22 _ _ hP15 hD15 hS15 _ (lv_sub hl25 [3, 4, 1, 2, 0] rfl)
            have hL46 : ∀ (n : Nat) (z46 : Int32 × Int32) (ρ46 : Int32 × Int32), lpO (m_X6_mend_L46 y34) n z46 = some ρ46 → (m_X6_mend_K46 z22 y34) ρ46 = some t22 → ∀ (H : Heap) (locs : List Loc), va_P D cls (wX6 q a y34.2) H → va_D (va_A (wX6 q a v) s.heap.size) (wX6 q a y34.2) → va_S (va_A (wX6 q a v) s.heap.size) s.heap H locs → ∀ ls : Array Slot, lv_has ls 7 [(0, .ref (a 99)), (1, .int x1), (2, .int z22.1), (3, .int z22.2.1), (4, .int z22.2.2.1), (5, .int z46.1), (6, .int z46.2)] → W p l e ((headSpec (mw yX6_mend cX6_mend 7 (some .int)) ({ frames := 4, cells := 0, slots := 0, locals := 96 } : Room)).room) s m [.ref (a 99), .int x1].toArray below meth c H locs 0 0 (MQ below (va_Qi (fun r w => r = res.1 ∧ w = res.2) (bW D q (wX6 q a v) s.heap.size (fun (uu : SV) => wX6 q a uu)) (va_A (wX6 q a v) s.heap.size)) [.ref (a 99), .int x1].toArray s 0 0 (va_A (wX6 q a v) s.heap.size)) (F0 m 46 ls []) := by
              intro n
              induction n with
              | zero => intro _ _ h; cases h
              | succ n ih46 =>
                intro z46 ρ46 hz46 hK46 H13 locs13 hP13 hD13 hS13 ls12 hl12
                obtain ⟨t46, hm, hz46⟩ := bn hz46
                unfold m_X6_mend_L46 at hm
                refine lv_iload hx hb dX6_mend_46 (lv_at hl12 6 rfl) ?_
                refine lv_aload_n hx hb dX6_mend_48 rfl (lv_at hl12 0 rfl) ?_
                refine va_get (D := D) (ci := 6) (v := .int (y34.2 0 1)) (C := RX6) (T := TX6) (N := 40) hx hb hW iX6 hown hK hP13 0 rfl rfl 1 (by decide) (hW _ k_868) (fun _ h => h) rfl dX6_mend_49 ?_
                refine lv_icmp_ge (tgt := 88) hx hb dX6_mend_52 (by decide) (fun c52 => ?_) (fun c52 => ?_)
                · replace hm := tp hm c52
                  cases hm
                  cases hz46
                  exact hE46 (z46.1, z46.2) hK46 _ _ hP13 hD13 hS13 _ (lv_sub hl12 [0, 1, 2, 3, 4, 5] rfl)
                · replace hm := tn hm c52
                  refine lv_iload hx hb dX6_mend_55 (lv_at hl12 5 rfl) ?_
                  refine lv_aload_n hx hb dX6_mend_57 rfl (lv_at hl12 0 rfl) ?_
                  refine lv_iconst (v := (0 : Int32)) hx hb dX6_mend_58 (by decide) ?_
                  refine lv_iload hx hb dX6_mend_59 (lv_at hl12 6 rfl) ?_
                  obtain ⟨y61, hy61, hm⟩ := bn hm
                  refine cVRi (As := [.int (0 : Int32), .int z46.2]) (rest := [.int z46.1]) X hP13 hl12.1 (c_X6_topOn l D q a y34.2 (0 : Int32) z46.2 y61 hy61) [0, 1, 2, 3, 4, 5, 6, 7, 8, 9, 10, 11, 12, 13, 14, 15, 16, 17] rfl 0 rfl rfl rfl k_1078 mX6_topOn ⟨rfl, rfl⟩ ⟨Nat.le_of_ble_eq_true rfl, Nat.le_of_ble_eq_true rfl⟩ rfl rfl (Nat.le_of_ble_eq_true rfl) dX6_mend_61 ⟨Nat.zero_le _, Nat.zero_le _⟩ ?_
                  refine lv_aload_n hx hb dX6_mend_64 rfl (lv_at hl12 0 rfl) ?_
                  refine va_get (D := D) (ci := 6) (v := .ref (a 30)) (C := RX6) (T := TX6) (N := 40) hx hb hW iX6 hown hK hP13 0 rfl rfl 30 (by decide) (hW _ k_897) (fun _ h => h) rfl dX6_mend_65 ?_
                  refine lv_iload hx hb dX6_mend_68 (lv_at hl12 6 rfl) ?_
                  obtain ⟨h26, hm⟩ := ckd hm
                  refine va_iald (f := (y34.2 30)) hx hb hK hP13 11 0 rfl rfl (inB_vp h26) dX6_mend_70 ?_
                  refine lv_icmp_eq (tgt := 78) hx hb dX6_mend_71 (by decide) (fun c71 => ?_) (fun c71 => ?_)
                  · replace hm := tp hm c71
                    refine lv_iconst (v := (0 : Int32)) hx hb dX6_mend_78 (by decide) ?_
                    refine lv_iadd hx hb dX6_mend_79 ?_
                    refine lv_istore (lv' := [(5, .int (z46.1 + (0 : Int32))), (0, .ref (a 99)), (1, .int x1), (2, .int z22.1), (3, .int z22.2.1), (4, .int z22.2.2.1), (6, .int z46.2)]) hx hb dX6_mend_80 hl12 (by decide) rfl (fun ls27 hl27 => ?_)
                    clear hl12
                    refine lv_iinc (v := (z46.2 + (1 : Int32))) (lv' := [(6, .int (z46.2 + (1 : Int32))), (5, .int (z46.1 + (0 : Int32))), (0, .ref (a 99)), (1, .int x1), (2, .int z22.1), (3, .int z22.2.1), (4, .int z22.2.2.1)]) hx hb dX6_mend_82 hl27 (k := 6) rfl rfl (by decide) rfl (fun ls28 hl28 => ?_)
                    clear hl27
                    refine lv_goto (tgt := 46) hx hb dX6_mend_85 (by decide) ?_
                    cases hm
                    exact ih46 ((z46.1 + (0 : Int32)), (z46.2 + (1 : Int32))) ρ46 hz46 hK46 _ _ hP13 hD13 hS13 _ (lv_sub hl28 [2, 3, 4, 5, 6, 1, 0] rfl)
                  · replace hm := tn hm c71
                    refine lv_iconst (v := (1 : Int32)) hx hb dX6_mend_74 (by decide) ?_
                    refine lv_goto (tgt := 79) hx hb dX6_mend_75 (by decide) ?_
                    refine lv_iadd hx hb dX6_mend_79 ?_
                    refine lv_istore (lv' := [(5, .int (z46.1 + (1 : Int32))), (0, .ref (a 99)), (1, .int x1), (2, .int z22.1), (3, .int z22.2.1), (4, .int z22.2.2.1), (6, .int z46.2)]) hx hb dX6_mend_80 hl12 (by decide) rfl (fun ls29 hl29 => ?_)
                    clear hl12
                    refine lv_iinc (v := (z46.2 + (1 : Int32))) (lv' := [(6, .int (z46.2 + (1 : Int32))), (5, .int (z46.1 + (1 : Int32))), (0, .ref (a 99)), (1, .int x1), (2, .int z22.1), (3, .int z22.2.1), (4, .int z22.2.2.1)]) hx hb dX6_mend_82 hl29 (k := 6) rfl rfl (by decide) rfl (fun ls30 hl30 => ?_)
                    clear hl29
                    refine lv_goto (tgt := 46) hx hb dX6_mend_85 (by decide) ?_
                    cases hm
                    exact ih46 ((z46.1 + (1 : Int32)), (z46.2 + (1 : Int32))) ρ46 hz46 hK46 _ _ hP13 hD13 hS13 _ (lv_sub hl30 [2, 3, 4, 5, 6, 1, 0] rfl)
            exact hL46 n46 ((0 : Int32), (0 : Int32)) r46 hn46 hm _ _ hP8 hD8 hS8 _ (lv_sub hl11 [2, 3, 4, 5, 6, 1, 0] rfl)
    exact hL22 n22 ((1000000 : Int32), (-4 : Int32), (0 : Int32), v) r22 hn22 hm _ _ hP0 hD0 hS0 _ (lv_sub hl3 [3, 4, 2, 1, 0] rfl)
  · replace hm := tp hm c7
    refine lv_iconst (v := (-1 : Int32)) hx hb dX6_mend_10 (by decide) ?_
    exact eWi (Wf := fun (uu : SV) => wX6 q a uu) (u := v) X hr hlocks hP0 hD0 hS0 hm dX6_mend_11
noncomputable def m_X6_isWithin_K4 (z4 : Int32 × Int32) : Option (Int32) :=
  ck (nzB z4.1) (some z4.1)
noncomputable def m_X6_isWithin_K18 (x1 : Int32) (z4 : Int32 × Int32) (z18 : Int32 × Int32) : Option ((Int32 × Int32) ⊕ (Int32 × Int32)) :=
  (if z4.1 = 0 then some (.inl ((0 : Int32), (z4.2 + (1 : Int32)))) else (if x1 < z18.1 then some (.inl ((0 : Int32), (z4.2 + (1 : Int32)))) else some (.inl ((1 : Int32), (z4.2 + (1 : Int32))))))
noncomputable def m_X6_isWithin_L18 (v : SV) (z4 : Int32 × Int32) (z18 : Int32 × Int32) : Option ((Int32 × Int32) ⊕ (Int32 × Int32)) :=
  (if (v 0 1) ≤ z18.2 then some (.inr (z18.1, z18.2)) else ck (inB z18.2 6) ((if (v 30 ((z18.2).toNatClampNeg)) = z4.2 then some (.inl ((z18.1 + (1 : Int32)), (z18.2 + (1 : Int32)))) else some (.inl ((z18.1 + (0 : Int32)), (z18.2 + (1 : Int32)))))))
noncomputable def m_X6_isWithin_L4 (v : SV) (x1 : Int32) (z4 : Int32 × Int32) : Option ((Int32 × Int32) ⊕ (Int32 × Int32)) :=
  (if (v 0 2) ≤ z4.2 then some (.inr (z4.1, z4.2)) else (lpC (m_X6_isWithin_L18 v z4) ((0 : Int32), (0 : Int32))).bind (m_X6_isWithin_K18 x1 z4))
noncomputable def m_X6_isWithin (v : SV) (x1 : Int32) : Option (Int32) :=
  (lpC (m_X6_isWithin_L4 v x1) ((1 : Int32), (0 : Int32))).bind (m_X6_isWithin_K4)
set_option maxHeartbeats 4000000 in
set_option maxRecDepth 100000 in
theorem c_X6_isWithin (l : Launch) (D : va_G) (q : Nat → ClassId) (a : Nat → Nat) (v : SV) (x1 : Int32) (res : Int32) (hm : m_X6_isWithin v x1 = some res) : Met l yX6_isWithin (mw yX6_isWithin cX6_isWithin 6 (some .boolean)) ({ frames := 0, cells := 0, slots := 0, locals := 0 } : Room) (pcR D q (wX6 q a v) [.ref (a 99), .int x1]) (vp_Si (fun x => x = res)) 0 0 (fun _ => False) := by
  refine Met.ofW (cc := cX6_isWithin) (maxL := 6) (ret := (some .boolean)) (by decide) rfl ?_
  intro p e s m args below meth c s₁ B hml hv
  obtain ⟨rfl, hP0, hK⟩ := hv
  have hx := B.exec
  have hb := B.bytes
  have hr := B.returns
  have hW := mw_ws (atoms_spec (ws := mw yX6_isWithin cX6_isWithin 6 (some .boolean)) B.pre)
  have hown : s.vm.findClass RX6 = some m.cls := findClass_of_methodNamed B.named
  have hlocks := B.notSynchronized
  have X : Cx p s m [.ref (a 99), .int x1].toArray c cX6_isWithin 6 RX6 D q := ⟨hx, hb, hml, hown, hW, hK⟩
  have hl0 := lv_entry ([.ref (a 99), .int x1]) (n := 6) (Nat.le_of_ble_eq_true rfl)
  rw [lg_entry_eq]
  generalize (lg_sl ([.ref (a 99), .int x1]) ++ List.replicate (6 - (lg_sl ([.ref (a 99), .int x1])).length) Slot.unset).toArray = ls0 at hl0 ⊢
  have hl0 : lv_has ls0 6 [(0, .ref (a 99)), (1, .int x1)] := hl0
  unfold m_X6_isWithin at hm
  refine lv_iconst (v := (1 : Int32)) hx hb dX6_isWithin_0 (by decide) ?_
  refine lv_istore_n (lv' := [(2, .int (1 : Int32)), (0, .ref (a 99)), (1, .int x1)]) hx hb dX6_isWithin_1 rfl hl0 (by decide) rfl (fun ls1 hl1 => ?_)
  clear hl0
  refine lv_iconst (v := (0 : Int32)) hx hb dX6_isWithin_2 (by decide) ?_
  refine lv_istore_n (lv' := [(3, .int (0 : Int32)), (2, .int (1 : Int32)), (0, .ref (a 99)), (1, .int x1)]) hx hb dX6_isWithin_3 rfl hl1 (by decide) rfl (fun ls2 hl2 => ?_)
  clear hl1
  obtain ⟨r4, hr4, hm⟩ := bn hm
  obtain ⟨n4, hn4⟩ := lpC_ex hr4
  have hE4 : ∀ z4 : Int32 × Int32, m_X6_isWithin_K4 z4 = some res → ∀ ls : Array Slot, lv_has ls 6 [(2, .int z4.1)] → W p l e ((headSpec (mw yX6_isWithin cX6_isWithin 6 (some .boolean)) ({ frames := 0, cells := 0, slots := 0, locals := 0 } : Room)).room) s m [.ref (a 99), .int x1].toArray below meth c s.heap [] 0 0 (MQ below (vp_Si (fun x => x = res)) [.ref (a 99), .int x1].toArray s 0 0 (fun _ => False)) (F0 m 76 ls []) := by
    intro z4 hm ls4 hl4
    unfold m_X6_isWithin_K4 at hm
    refine lv_iload_n hx hb dX6_isWithin_76 rfl (lv_at hl4 0 rfl) ?_
    obtain ⟨hz0, hm⟩ := ckd hm
    have hnz := nz_nar hz0
    exact eRz  X hr hlocks hnz hm dX6_isWithin_77
  have hL4 : ∀ (n : Nat) (z4 : Int32 × Int32) (ρ4 : Int32 × Int32), lpO (m_X6_isWithin_L4 v x1) n z4 = some ρ4 → (m_X6_isWithin_K4) ρ4 = some res → ∀ ls : Array Slot, lv_has ls 6 [(0, .ref (a 99)), (1, .int x1), (2, .int z4.1), (3, .int z4.2)] → W p l e ((headSpec (mw yX6_isWithin cX6_isWithin 6 (some .boolean)) ({ frames := 0, cells := 0, slots := 0, locals := 0 } : Room)).room) s m [.ref (a 99), .int x1].toArray below meth c s.heap [] 0 0 (MQ below (vp_Si (fun x => x = res)) [.ref (a 99), .int x1].toArray s 0 0 (fun _ => False)) (F0 m 4 ls []) := by
    intro n
    induction n with
    | zero => intro _ _ h; cases h
    | succ n ih4 =>
      intro z4 ρ4 hz4 hK4 ls3 hl3
      obtain ⟨t4, hm, hz4⟩ := bn hz4
      unfold m_X6_isWithin_L4 at hm
      refine lv_iload_n hx hb dX6_isWithin_4 rfl (lv_at hl3 3 rfl) ?_
      refine lv_aload_n hx hb dX6_isWithin_5 rfl (lv_at hl3 0 rfl) ?_
      refine va_get (D := D) (ci := 6) (v := .int (v 0 2)) (C := RX6) (T := TX6) (N := 40) hx hb hW iX6 hown hK hP0 0 rfl rfl 2 (by decide) (hW _ k_869) (fun _ h => h) rfl dX6_isWithin_6 ?_
      refine lv_icmp_ge (tgt := 76) hx hb dX6_isWithin_9 (by decide) (fun c9 => ?_) (fun c9 => ?_)
      · replace hm := tp hm c9
        cases hm
        cases hz4
        exact hE4 (z4.1, z4.2) hK4 _ (lv_sub hl3 [2] rfl)
      · replace hm := tn hm c9
        refine lv_iconst (v := (0 : Int32)) hx hb dX6_isWithin_12 (by decide) ?_
        refine lv_istore (lv' := [(4, .int (0 : Int32)), (0, .ref (a 99)), (1, .int x1), (2, .int z4.1), (3, .int z4.2)]) hx hb dX6_isWithin_13 hl3 (by decide) rfl (fun ls5 hl5 => ?_)
        clear hl3
        refine lv_iconst (v := (0 : Int32)) hx hb dX6_isWithin_15 (by decide) ?_
        refine lv_istore (lv' := [(5, .int (0 : Int32)), (4, .int (0 : Int32)), (0, .ref (a 99)), (1, .int x1), (2, .int z4.1), (3, .int z4.2)]) hx hb dX6_isWithin_16 hl5 (by decide) rfl (fun ls6 hl6 => ?_)
        clear hl5
        obtain ⟨r18, hr18, hm⟩ := bn hm
        obtain ⟨n18, hn18⟩ := lpC_ex hr18
        have hE18 : ∀ z18 : Int32 × Int32, m_X6_isWithin_K18 x1 z4 z18 = some t4 → ∀ ls : Array Slot, lv_has ls 6 [(0, .ref (a 99)), (1, .int x1), (2, .int z4.1), (3, .int z4.2), (4, .int z18.1)] → W p l e ((headSpec (mw yX6_isWithin cX6_isWithin 6 (some .boolean)) ({ frames := 0, cells := 0, slots := 0, locals := 0 } : Room)).room) s m [.ref (a 99), .int x1].toArray below meth c s.heap [] 0 0 (MQ below (vp_Si (fun x => x = res)) [.ref (a 99), .int x1].toArray s 0 0 (fun _ => False)) (F0 m 54 ls []) := by
          intro z18 hm ls8 hl8
          unfold m_X6_isWithin_K18 at hm
          refine lv_iload_n hx hb dX6_isWithin_54 rfl (lv_at hl8 2 rfl) ?_
          refine lv_if_eq (tgt := 68) hx hb dX6_isWithin_55 (by decide) (fun c55 => ?_) (fun c55 => ?_)
          · replace hm := tp hm c55
            refine lv_iconst (v := (0 : Int32)) hx hb dX6_isWithin_68 (by decide) ?_
            refine lv_istore_n (lv' := [(2, .int (0 : Int32)), (0, .ref (a 99)), (1, .int x1), (3, .int z4.2), (4, .int z18.1)]) hx hb dX6_isWithin_69 rfl hl8 (by decide) rfl (fun ls9 hl9 => ?_)
            clear hl8
            refine lv_iinc (v := (z4.2 + (1 : Int32))) (lv' := [(3, .int (z4.2 + (1 : Int32))), (2, .int (0 : Int32)), (0, .ref (a 99)), (1, .int x1), (4, .int z18.1)]) hx hb dX6_isWithin_70 hl9 (k := 3) rfl rfl (by decide) rfl (fun ls10 hl10 => ?_)
            clear hl9
            refine lv_goto (tgt := 4) hx hb dX6_isWithin_73 (by decide) ?_
            cases hm
            exact ih4 ((0 : Int32), (z4.2 + (1 : Int32))) ρ4 hz4 hK4 _ (lv_sub hl10 [2, 3, 1, 0] rfl)
          · replace hm := tn hm c55
            refine lv_iload hx hb dX6_isWithin_58 (lv_at hl8 4 rfl) ?_
            refine lv_iload_n hx hb dX6_isWithin_60 rfl (lv_at hl8 1 rfl) ?_
            refine lv_icmp_gt (tgt := 68) hx hb dX6_isWithin_61 (by decide) (fun c61 => ?_) (fun c61 => ?_)
            · replace hm := tp hm c61
              refine lv_iconst (v := (0 : Int32)) hx hb dX6_isWithin_68 (by decide) ?_
              refine lv_istore_n (lv' := [(2, .int (0 : Int32)), (0, .ref (a 99)), (1, .int x1), (3, .int z4.2), (4, .int z18.1)]) hx hb dX6_isWithin_69 rfl hl8 (by decide) rfl (fun ls11 hl11 => ?_)
              clear hl8
              refine lv_iinc (v := (z4.2 + (1 : Int32))) (lv' := [(3, .int (z4.2 + (1 : Int32))), (2, .int (0 : Int32)), (0, .ref (a 99)), (1, .int x1), (4, .int z18.1)]) hx hb dX6_isWithin_70 hl11 (k := 3) rfl rfl (by decide) rfl (fun ls12 hl12 => ?_)
              clear hl11
              refine lv_goto (tgt := 4) hx hb dX6_isWithin_73 (by decide) ?_
              cases hm
              exact ih4 ((0 : Int32), (z4.2 + (1 : Int32))) ρ4 hz4 hK4 _ (lv_sub hl12 [2, 3, 1, 0] rfl)
            · replace hm := tn hm c61
              refine lv_iconst (v := (1 : Int32)) hx hb dX6_isWithin_64 (by decide) ?_
              refine lv_goto (tgt := 69) hx hb dX6_isWithin_65 (by decide) ?_
              refine lv_istore_n (lv' := [(2, .int (1 : Int32)), (0, .ref (a 99)), (1, .int x1), (3, .int z4.2), (4, .int z18.1)]) hx hb dX6_isWithin_69 rfl hl8 (by decide) rfl (fun ls13 hl13 => ?_)
              clear hl8
              refine lv_iinc (v := (z4.2 + (1 : Int32))) (lv' := [(3, .int (z4.2 + (1 : Int32))), (2, .int (1 : Int32)), (0, .ref (a 99)), (1, .int x1), (4, .int z18.1)]) hx hb dX6_isWithin_70 hl13 (k := 3) rfl rfl (by decide) rfl (fun ls14 hl14 => ?_)
              clear hl13
              refine lv_goto (tgt := 4) hx hb dX6_isWithin_73 (by decide) ?_
              cases hm
              exact ih4 ((1 : Int32), (z4.2 + (1 : Int32))) ρ4 hz4 hK4 _ (lv_sub hl14 [2, 3, 1, 0] rfl)
        have hL18 : ∀ (n : Nat) (z18 : Int32 × Int32) (ρ18 : Int32 × Int32), lpO (m_X6_isWithin_L18 v z4) n z18 = some ρ18 → (m_X6_isWithin_K18 x1 z4) ρ18 = some t4 → ∀ ls : Array Slot, lv_has ls 6 [(0, .ref (a 99)), (1, .int x1), (2, .int z4.1), (3, .int z4.2), (4, .int z18.1), (5, .int z18.2)] → W p l e ((headSpec (mw yX6_isWithin cX6_isWithin 6 (some .boolean)) ({ frames := 0, cells := 0, slots := 0, locals := 0 } : Room)).room) s m [.ref (a 99), .int x1].toArray below meth c s.heap [] 0 0 (MQ below (vp_Si (fun x => x = res)) [.ref (a 99), .int x1].toArray s 0 0 (fun _ => False)) (F0 m 18 ls []) := by
          intro n
          induction n with
          | zero => intro _ _ h; cases h
          | succ n ih18 =>
            intro z18 ρ18 hz18 hK18 ls7 hl7
            obtain ⟨t18, hm, hz18⟩ := bn hz18
            unfold m_X6_isWithin_L18 at hm
            refine lv_iload hx hb dX6_isWithin_18 (lv_at hl7 5 rfl) ?_
            refine lv_aload_n hx hb dX6_isWithin_20 rfl (lv_at hl7 0 rfl) ?_
            refine va_get (D := D) (ci := 6) (v := .int (v 0 1)) (C := RX6) (T := TX6) (N := 40) hx hb hW iX6 hown hK hP0 0 rfl rfl 1 (by decide) (hW _ k_868) (fun _ h => h) rfl dX6_isWithin_21 ?_
            refine lv_icmp_ge (tgt := 54) hx hb dX6_isWithin_24 (by decide) (fun c24 => ?_) (fun c24 => ?_)
            · replace hm := tp hm c24
              cases hm
              cases hz18
              exact hE18 (z18.1, z18.2) hK18 _ (lv_sub hl7 [0, 1, 2, 3, 4] rfl)
            · replace hm := tn hm c24
              refine lv_iload hx hb dX6_isWithin_27 (lv_at hl7 4 rfl) ?_
              refine lv_aload_n hx hb dX6_isWithin_29 rfl (lv_at hl7 0 rfl) ?_
              refine va_get (D := D) (ci := 6) (v := .ref (a 30)) (C := RX6) (T := TX6) (N := 40) hx hb hW iX6 hown hK hP0 0 rfl rfl 30 (by decide) (hW _ k_897) (fun _ h => h) rfl dX6_isWithin_30 ?_
              refine lv_iload hx hb dX6_isWithin_33 (lv_at hl7 5 rfl) ?_
              obtain ⟨h15, hm⟩ := ckd hm
              refine va_iald (f := (v 30)) hx hb hK hP0 11 0 rfl rfl (inB_vp h15) dX6_isWithin_35 ?_
              refine lv_iload_n hx hb dX6_isWithin_36 rfl (lv_at hl7 3 rfl) ?_
              refine lv_icmp_ne (tgt := 44) hx hb dX6_isWithin_37 (by decide) (fun c37 => ?_) (fun c37 => ?_)
              · replace hm := tn hm c37
                refine lv_iconst (v := (0 : Int32)) hx hb dX6_isWithin_44 (by decide) ?_
                refine lv_iadd hx hb dX6_isWithin_45 ?_
                refine lv_istore (lv' := [(4, .int (z18.1 + (0 : Int32))), (0, .ref (a 99)), (1, .int x1), (2, .int z4.1), (3, .int z4.2), (5, .int z18.2)]) hx hb dX6_isWithin_46 hl7 (by decide) rfl (fun ls18 hl18 => ?_)
                clear hl7
                refine lv_iinc (v := (z18.2 + (1 : Int32))) (lv' := [(5, .int (z18.2 + (1 : Int32))), (4, .int (z18.1 + (0 : Int32))), (0, .ref (a 99)), (1, .int x1), (2, .int z4.1), (3, .int z4.2)]) hx hb dX6_isWithin_48 hl18 (k := 5) rfl rfl (by decide) rfl (fun ls19 hl19 => ?_)
                clear hl18
                refine lv_goto (tgt := 18) hx hb dX6_isWithin_51 (by decide) ?_
                cases hm
                exact ih18 ((z18.1 + (0 : Int32)), (z18.2 + (1 : Int32))) ρ18 hz18 hK18 _ (lv_sub hl19 [2, 3, 4, 5, 1, 0] rfl)
              · replace hm := tp hm c37
                refine lv_iconst (v := (1 : Int32)) hx hb dX6_isWithin_40 (by decide) ?_
                refine lv_goto (tgt := 45) hx hb dX6_isWithin_41 (by decide) ?_
                refine lv_iadd hx hb dX6_isWithin_45 ?_
                refine lv_istore (lv' := [(4, .int (z18.1 + (1 : Int32))), (0, .ref (a 99)), (1, .int x1), (2, .int z4.1), (3, .int z4.2), (5, .int z18.2)]) hx hb dX6_isWithin_46 hl7 (by decide) rfl (fun ls16 hl16 => ?_)
                clear hl7
                refine lv_iinc (v := (z18.2 + (1 : Int32))) (lv' := [(5, .int (z18.2 + (1 : Int32))), (4, .int (z18.1 + (1 : Int32))), (0, .ref (a 99)), (1, .int x1), (2, .int z4.1), (3, .int z4.2)]) hx hb dX6_isWithin_48 hl16 (k := 5) rfl rfl (by decide) rfl (fun ls17 hl17 => ?_)
                clear hl16
                refine lv_goto (tgt := 18) hx hb dX6_isWithin_51 (by decide) ?_
                cases hm
                exact ih18 ((z18.1 + (1 : Int32)), (z18.2 + (1 : Int32))) ρ18 hz18 hK18 _ (lv_sub hl17 [2, 3, 4, 5, 1, 0] rfl)
        exact hL18 n18 ((0 : Int32), (0 : Int32)) r18 hn18 hm _ (lv_sub hl6 [2, 3, 4, 5, 1, 0] rfl)
  exact hL4 n4 ((1 : Int32), (0 : Int32)) r4 hn4 hm _ (lv_sub hl2 [2, 3, 1, 0] rfl)
noncomputable def m_X6_cheap_K35 (x2 : Int32) (z35 : Int32 × Int32 × Int32 × SV) : Option (Int32 × SV) :=
  (if z35.2.1 = (-4 : Int32) then some (z35.2.1, z35.2.2.2) else (if x2 = (1 : Int32) then some (z35.2.1, z35.2.2.2) else some (z35.1, z35.2.2.2)))
noncomputable def m_X6_cheap_K67 (z35 : Int32 × Int32 × Int32 × SV) (y47 : Int32 × SV) (z67 : Int32 × Int32) : Option ((Int32 × Int32 × Int32 × SV) ⊕ (Int32 × Int32 × Int32 × SV)) :=
  (if z35.1 ≤ z67.1 then (if z35.1 ≤ z67.1 then some (.inl (z35.1, z35.2.1, (z35.2.2.1 + (1 : Int32)), y47.2)) else some (.inl (z67.1, z35.2.1, (z35.2.2.1 + (1 : Int32)), y47.2))) else (if z35.1 ≤ z67.1 then some (.inl (z35.1, z35.2.2.1, (z35.2.2.1 + (1 : Int32)), y47.2)) else some (.inl (z67.1, z35.2.2.1, (z35.2.2.1 + (1 : Int32)), y47.2))))
noncomputable def m_X6_cheap_L67 (y47 : Int32 × SV) (z67 : Int32 × Int32) : Option ((Int32 × Int32) ⊕ (Int32 × Int32)) :=
  (if (y47.2 0 1) ≤ z67.2 then some (.inr (z67.1, z67.2)) else ck (inB z67.2 6) (ck (inB ((46 : Int32) + (y47.2 30 ((z67.2).toNatClampNeg))) 315) ((m_X6_worthOf y47.2 z67.2).bind (fun y96 => some (.inl ((z67.1 + ((y47.2 50 ((((46 : Int32) + (y47.2 30 ((z67.2).toNatClampNeg)))).toNatClampNeg)) * y96)), (z67.2 + (1 : Int32))))))))
noncomputable def m_X6_cheap_L35 (x1 : Int32) (z35 : Int32 × Int32 × Int32 × SV) : Option ((Int32 × Int32 × Int32 × SV) ⊕ (Int32 × Int32 × Int32 × SV)) :=
  (m_X6_pictures z35.2.2.2).bind (fun y38 => (if y38 ≤ z35.2.2.1 then some (.inr (z35.1, z35.2.1, z35.2.2.1, z35.2.2.2)) else (m_X6_laysPicture z35.2.2.2 z35.2.2.1).bind (fun y47 => (if y47.1 = 0 then some (.inl (z35.1, z35.2.1, (z35.2.2.1 + (1 : Int32)), y47.2)) else (m_X6_isWithin y47.2 x1).bind (fun y55 => (if y55 = 0 then some (.inl (z35.1, z35.2.1, (z35.2.2.1 + (1 : Int32)), y47.2)) else (lpC (m_X6_cheap_L67 y47) ((0 : Int32), (0 : Int32))).bind (m_X6_cheap_K67 z35 y47)))))))
noncomputable def m_X6_cheap (v : SV) (x1 : Int32) (x2 : Int32) : Option (Int32 × SV) :=
  (m_X6_in (x1.toInt64) (1 : Int64) (6 : Int64)).bind (fun y6 => (if y6 = 0 then some ((-1 : Int32), v) else (m_X6_in (x2.toInt64) (0 : Int64) (1 : Int64)).bind (fun y16 => (if y16 = 0 then some ((-1 : Int32), v) else (lpC (m_X6_cheap_L35 x1) ((1000000 : Int32), (-4 : Int32), (0 : Int32), v)).bind (m_X6_cheap_K35 x2)))))
set_option maxHeartbeats 4000000 in
set_option maxRecDepth 100000 in
theorem c_X6_cheap (l : Launch) (D : va_G) (q : Nat → ClassId) (sz : Nat) (a : Nat → Nat) (v : SV) (x1 : Int32) (x2 : Int32) (res : Int32 × SV) (hm : m_X6_cheap v x1 x2 = some res) : Met l yX6_cheap (mw yX6_cheap cX6_cheap 8 (some .int)) ({ frames := 4, cells := 0, slots := 0, locals := 96 } : Room) (pcW D q (wX6 q a v) sz [.ref (a 99), .int x1, .int x2]) (va_Qi (fun r w => r = res.1 ∧ w = res.2) (bW D q (wX6 q a v) sz (fun (uu : SV) => wX6 q a uu)) (va_A (wX6 q a v) sz)) 0 0 (va_A (wX6 q a v) sz) := by
  refine Met.ofW (cc := cX6_cheap) (maxL := 8) (ret := (some .int)) (by decide) rfl ?_
  intro p e s m args below meth c s₁ B hml hv
  obtain ⟨rfl, hsz, hP0, hK, hD0⟩ := hv
  have hx := B.exec
  have hb := B.bytes
  have hr := B.returns
  have hW := mw_ws (atoms_spec (ws := mw yX6_cheap cX6_cheap 8 (some .int)) B.pre)
  have hown : s.vm.findClass RX6 = some m.cls := findClass_of_methodNamed B.named
  have hlocks := B.notSynchronized
  have X : Cx p s m [.ref (a 99), .int x1, .int x2].toArray c cX6_cheap 8 RX6 D q := ⟨hx, hb, hml, hown, hW, hK⟩
  subst hsz
  replace hD0 := hD0.self (sz := s.heap.size)
  have hS0 : va_S (va_A (wX6 q a v) s.heap.size) s.heap s.heap [] := va_S.rf
  have hl0 := lv_entry ([.ref (a 99), .int x1, .int x2]) (n := 8) (Nat.le_of_ble_eq_true rfl)
  rw [lg_entry_eq]
  generalize (lg_sl ([.ref (a 99), .int x1, .int x2]) ++ List.replicate (8 - (lg_sl ([.ref (a 99), .int x1, .int x2])).length) Slot.unset).toArray = ls0 at hl0 ⊢
  have hl0 : lv_has ls0 8 [(0, .ref (a 99)), (1, .int x1), (2, .int x2)] := hl0
  unfold m_X6_cheap at hm
  refine lv_iload_n hx hb dX6_cheap_0 rfl (lv_at hl0 1 rfl) ?_
  refine lv_i2l hx hb dX6_cheap_1 rfl ?_
  refine lv_lconst (v := (1 : Int64)) hx hb dX6_cheap_2 (by decide) ?_
  refine lv_ldc2 (v := (6 : Int64)) hx hb hown (hW _ k_1216) dX6_cheap_3 ?_
  obtain ⟨y6, hy6, hm⟩ := bn hm
  refine cSRi (As := [.long (x1.toInt64), .long (1 : Int64), .long (6 : Int64)]) (rest := []) X hP0 hl0.1 (c_X6_in l D q (x1.toInt64) (1 : Int64) (6 : Int64) y6 hy6) [] rfl k_993 mX6_in ⟨rfl, rfl⟩ ⟨Nat.le_of_ble_eq_true rfl, Nat.le_of_ble_eq_true rfl⟩ rfl rfl (Nat.le_of_ble_eq_true rfl) dX6_cheap_6 ⟨Nat.zero_le _, Nat.zero_le _⟩ ?_
  refine lv_if_eq (tgt := 22) hx hb dX6_cheap_9 (by decide) (fun c9 => ?_) (fun c9 => ?_)
  · replace hm := tp hm c9
    refine lv_iconst (v := (-1 : Int32)) hx hb dX6_cheap_22 (by decide) ?_
    exact eWi (Wf := fun (uu : SV) => wX6 q a uu) (u := v) X hr hlocks hP0 hD0 hS0 hm dX6_cheap_23
  · replace hm := tn hm c9
    refine lv_iload_n hx hb dX6_cheap_12 rfl (lv_at hl0 2 rfl) ?_
    refine lv_i2l hx hb dX6_cheap_13 rfl ?_
    refine lv_lconst (v := (0 : Int64)) hx hb dX6_cheap_14 (by decide) ?_
    refine lv_lconst (v := (1 : Int64)) hx hb dX6_cheap_15 (by decide) ?_
    obtain ⟨y16, hy16, hm⟩ := bn hm
    refine cSRi (As := [.long (x2.toInt64), .long (0 : Int64), .long (1 : Int64)]) (rest := []) X hP0 hl0.1 (c_X6_in l D q (x2.toInt64) (0 : Int64) (1 : Int64) y16 hy16) [] rfl k_993 mX6_in ⟨rfl, rfl⟩ ⟨Nat.le_of_ble_eq_true rfl, Nat.le_of_ble_eq_true rfl⟩ rfl rfl (Nat.le_of_ble_eq_true rfl) dX6_cheap_16 ⟨Nat.zero_le _, Nat.zero_le _⟩ ?_
    refine lv_if_ne (tgt := 24) hx hb dX6_cheap_19 (by decide) (fun c19 => ?_) (fun c19 => ?_)
    · replace hm := tn hm c19
      refine lv_ldcw (v := (1000000 : Int32)) hx hb hown (hW _ k_1211) dX6_cheap_24 ?_
      refine lv_istore_n (lv' := [(3, .int (1000000 : Int32)), (0, .ref (a 99)), (1, .int x1), (2, .int x2)]) hx hb dX6_cheap_27 rfl hl0 (by decide) rfl (fun ls1 hl1 => ?_)
      clear hl0
      refine lv_bipush (v := (-4 : Int32)) hx hb dX6_cheap_28 (by decide) ?_
      refine lv_istore (lv' := [(4, .int (-4 : Int32)), (3, .int (1000000 : Int32)), (0, .ref (a 99)), (1, .int x1), (2, .int x2)]) hx hb dX6_cheap_30 hl1 (by decide) rfl (fun ls2 hl2 => ?_)
      clear hl1
      refine lv_iconst (v := (0 : Int32)) hx hb dX6_cheap_32 (by decide) ?_
      refine lv_istore (lv' := [(5, .int (0 : Int32)), (4, .int (-4 : Int32)), (3, .int (1000000 : Int32)), (0, .ref (a 99)), (1, .int x1), (2, .int x2)]) hx hb dX6_cheap_33 hl2 (by decide) rfl (fun ls3 hl3 => ?_)
      clear hl2
      obtain ⟨r35, hr35, hm⟩ := bn hm
      obtain ⟨n35, hn35⟩ := lpC_ex hr35
      have hE35 : ∀ z35 : Int32 × Int32 × Int32 × SV, m_X6_cheap_K35 x2 z35 = some res → ∀ (H : Heap) (locs : List Loc), va_P D cls (wX6 q a z35.2.2.2) H → va_D (va_A (wX6 q a v) s.heap.size) (wX6 q a z35.2.2.2) → va_S (va_A (wX6 q a v) s.heap.size) s.heap H locs → ∀ ls : Array Slot, lv_has ls 8 [(2, .int x2), (3, .int z35.1), (4, .int z35.2.1)] → W p l e ((headSpec (mw yX6_cheap cX6_cheap 8 (some .int)) ({ frames := 4, cells := 0, slots := 0, locals := 96 } : Room)).room) s m [.ref (a 99), .int x1, .int x2].toArray below meth c H locs 0 0 (MQ below (va_Qi (fun r w => r = res.1 ∧ w = res.2) (bW D q (wX6 q a v) s.heap.size (fun (uu : SV) => wX6 q a uu)) (va_A (wX6 q a v) s.heap.size)) [.ref (a 99), .int x1, .int x2].toArray s 0 0 (va_A (wX6 q a v) s.heap.size)) (F0 m 143 ls []) := by
        intro z35 hm H7 locs7 hP7 hD7 hS7 ls6 hl6
        unfold m_X6_cheap_K35 at hm
        refine lv_iload hx hb dX6_cheap_143 (lv_at hl6 2 rfl) ?_
        refine lv_bipush (v := (-4 : Int32)) hx hb dX6_cheap_145 (by decide) ?_
        refine lv_icmp_eq (tgt := 155) hx hb dX6_cheap_147 (by decide) (fun c147 => ?_) (fun c147 => ?_)
        · replace hm := tp hm c147
          refine lv_iload hx hb dX6_cheap_155 (lv_at hl6 2 rfl) ?_
          refine lv_goto (tgt := 161) hx hb dX6_cheap_157 (by decide) ?_
          exact eWi (Wf := fun (uu : SV) => wX6 q a uu) (u := z35.2.2.2) X hr hlocks hP7 hD7 hS7 hm dX6_cheap_161
        · replace hm := tn hm c147
          refine lv_iload_n hx hb dX6_cheap_150 rfl (lv_at hl6 0 rfl) ?_
          refine lv_iconst (v := (1 : Int32)) hx hb dX6_cheap_151 (by decide) ?_
          refine lv_icmp_ne (tgt := 160) hx hb dX6_cheap_152 (by decide) (fun c152 => ?_) (fun c152 => ?_)
          · replace hm := tn hm c152
            refine lv_iload_n hx hb dX6_cheap_160 rfl (lv_at hl6 1 rfl) ?_
            exact eWi (Wf := fun (uu : SV) => wX6 q a uu) (u := z35.2.2.2) X hr hlocks hP7 hD7 hS7 hm dX6_cheap_161
          · replace hm := tp hm c152
            refine lv_iload hx hb dX6_cheap_155 (lv_at hl6 2 rfl) ?_
            refine lv_goto (tgt := 161) hx hb dX6_cheap_157 (by decide) ?_
            exact eWi (Wf := fun (uu : SV) => wX6 q a uu) (u := z35.2.2.2) X hr hlocks hP7 hD7 hS7 hm dX6_cheap_161
      have hL35 : ∀ (n : Nat) (z35 : Int32 × Int32 × Int32 × SV) (ρ35 : Int32 × Int32 × Int32 × SV), lpO (m_X6_cheap_L35 x1) n z35 = some ρ35 → (m_X6_cheap_K35 x2) ρ35 = some res → ∀ (H : Heap) (locs : List Loc), va_P D cls (wX6 q a z35.2.2.2) H → va_D (va_A (wX6 q a v) s.heap.size) (wX6 q a z35.2.2.2) → va_S (va_A (wX6 q a v) s.heap.size) s.heap H locs → ∀ ls : Array Slot, lv_has ls 8 [(0, .ref (a 99)), (1, .int x1), (2, .int x2), (3, .int z35.1), (4, .int z35.2.1), (5, .int z35.2.2.1)] → W p l e ((headSpec (mw yX6_cheap cX6_cheap 8 (some .int)) ({ frames := 4, cells := 0, slots := 0, locals := 96 } : Room)).room) s m [.ref (a 99), .int x1, .int x2].toArray below meth c H locs 0 0 (MQ below (va_Qi (fun r w => r = res.1 ∧ w = res.2) (bW D q (wX6 q a v) s.heap.size (fun (uu : SV) => wX6 q a uu)) (va_A (wX6 q a v) s.heap.size)) [.ref (a 99), .int x1, .int x2].toArray s 0 0 (va_A (wX6 q a v) s.heap.size)) (F0 m 35 ls []) := by
        intro n
        induction n with
        | zero => intro _ _ h; cases h
        | succ n ih35 =>
          intro z35 ρ35 hz35 hK35 H5 locs5 hP5 hD5 hS5 ls4 hl4
          obtain ⟨t35, hm, hz35⟩ := bn hz35
          unfold m_X6_cheap_L35 at hm
          refine lv_iload hx hb dX6_cheap_35 (lv_at hl4 5 rfl) ?_
          refine lv_aload_n hx hb dX6_cheap_37 rfl (lv_at hl4 0 rfl) ?_
          obtain ⟨y38, hy38, hm⟩ := bn hm
          refine cVRi (As := []) (rest := [.int z35.2.2.1]) X hP5 hl4.1 (c_X6_pictures l D q a z35.2.2.2 y38 hy38) [0, 1, 2, 3, 4, 5, 6, 7, 8, 9, 10, 11, 12, 13, 14, 15, 16, 17] rfl 0 rfl rfl rfl k_1199 mX6_pictures ⟨rfl, rfl⟩ ⟨Nat.le_of_ble_eq_true rfl, Nat.le_of_ble_eq_true rfl⟩ rfl rfl (Nat.le_of_ble_eq_true rfl) dX6_cheap_38 ⟨Nat.zero_le _, Nat.zero_le _⟩ ?_
          refine lv_icmp_ge (tgt := 143) hx hb dX6_cheap_41 (by decide) (fun c41 => ?_) (fun c41 => ?_)
          · replace hm := tp hm c41
            cases hm
            cases hz35
            exact hE35 (z35.1, z35.2.1, z35.2.2.1, z35.2.2.2) hK35 _ _ hP5 hD5 hS5 _ (lv_sub hl4 [2, 3, 4] rfl)
          · replace hm := tn hm c41
            refine lv_aload_n hx hb dX6_cheap_44 rfl (lv_at hl4 0 rfl) ?_
            refine lv_iload hx hb dX6_cheap_45 (lv_at hl4 5 rfl) ?_
            obtain ⟨y47, hy47, hm⟩ := bn hm
            refine cVWi (As := [.int z35.2.2.1]) (rest := []) (Wn := fun (uu : SV) => wX6 q a uu) X hP5 hD5 hS5 (fun _ h => Or.inr h) hl4.1 (c_X6_laysPicture l D q H5.size a z35.2.2.2 z35.2.2.1 y47 hy47) [0, 1, 2, 3, 4, 5, 6, 7, 8, 9, 10, 11, 12, 13, 14, 15, 16, 17] [] [0, 1, 2, 3, 4, 5, 6, 7, 8, 9, 10, 11, 12, 13, 14, 15, 16, 17] rfl (Wr := []) rfl (by decide) (by decide) (by decide) (by decide) (fun _ => rfl) 0 rfl rfl rfl k_1203 mX6_laysPicture ⟨rfl, rfl⟩ ⟨Nat.le_of_ble_eq_true rfl, Nat.le_of_ble_eq_true rfl⟩ rfl rfl (Nat.le_of_ble_eq_true rfl) dX6_cheap_47 ⟨Nat.zero_le _, Nat.zero_le _⟩ (fun H8 locs8 hP hD hS8 => ?_)
            have hP8 : va_P D cls (wX6 q a y47.2) H8 := hP
            have hD8 : va_D (va_A (wX6 q a v) s.heap.size) (wX6 q a y47.2) := hD
            clear hP hD hP5 hD5 hS5
            refine lv_if_eq (tgt := 137) hx hb dX6_cheap_50 (by decide) (fun c50 => ?_) (fun c50 => ?_)
            · replace hm := tp hm c50
              refine lv_iinc (v := (z35.2.2.1 + (1 : Int32))) (lv' := [(5, .int (z35.2.2.1 + (1 : Int32))), (0, .ref (a 99)), (1, .int x1), (2, .int x2), (3, .int z35.1), (4, .int z35.2.1)]) hx hb dX6_cheap_137 hl4 (k := 5) rfl rfl (by decide) rfl (fun ls9 hl9 => ?_)
              clear hl4
              refine lv_goto (tgt := 35) hx hb dX6_cheap_140 (by decide) ?_
              cases hm
              exact ih35 (z35.1, z35.2.1, (z35.2.2.1 + (1 : Int32)), y47.2) ρ35 hz35 hK35 _ _ hP8 hD8 hS8 _ (lv_sub hl9 [1, 2, 3, 4, 5, 0] rfl)
            · replace hm := tn hm c50
              refine lv_aload_n hx hb dX6_cheap_53 rfl (lv_at hl4 0 rfl) ?_
              refine lv_iload_n hx hb dX6_cheap_54 rfl (lv_at hl4 1 rfl) ?_
              obtain ⟨y55, hy55, hm⟩ := bn hm
              refine cVRi (As := [.int x1]) (rest := []) X hP8 hl4.1 (c_X6_isWithin l D q a y47.2 x1 y55 hy55) [0, 1, 2, 3, 4, 5, 6, 7, 8, 9, 10, 11, 12, 13, 14, 15, 16, 17] rfl 0 rfl rfl rfl k_1217 mX6_isWithin ⟨rfl, rfl⟩ ⟨Nat.le_of_ble_eq_true rfl, Nat.le_of_ble_eq_true rfl⟩ rfl rfl (Nat.le_of_ble_eq_true rfl) dX6_cheap_55 ⟨Nat.zero_le _, Nat.zero_le _⟩ ?_
              refine lv_if_eq (tgt := 137) hx hb dX6_cheap_58 (by decide) (fun c58 => ?_) (fun c58 => ?_)
              · replace hm := tp hm c58
                refine lv_iinc (v := (z35.2.2.1 + (1 : Int32))) (lv' := [(5, .int (z35.2.2.1 + (1 : Int32))), (0, .ref (a 99)), (1, .int x1), (2, .int x2), (3, .int z35.1), (4, .int z35.2.1)]) hx hb dX6_cheap_137 hl4 (k := 5) rfl rfl (by decide) rfl (fun ls10 hl10 => ?_)
                clear hl4
                refine lv_goto (tgt := 35) hx hb dX6_cheap_140 (by decide) ?_
                cases hm
                exact ih35 (z35.1, z35.2.1, (z35.2.2.1 + (1 : Int32)), y47.2) ρ35 hz35 hK35 _ _ hP8 hD8 hS8 _ (lv_sub hl10 [1, 2, 3, 4, 5, 0] rfl)
              · replace hm := tn hm c58
                refine lv_iconst (v := (0 : Int32)) hx hb dX6_cheap_61 (by decide) ?_
                refine lv_istore (lv' := [(6, .int (0 : Int32)), (0, .ref (a 99)), (1, .int x1), (2, .int x2), (3, .int z35.1), (4, .int z35.2.1), (5, .int z35.2.2.1)]) hx hb dX6_cheap_62 hl4 (by decide) rfl (fun ls11 hl11 => ?_)
                clear hl4
                refine lv_iconst (v := (0 : Int32)) hx hb dX6_cheap_64 (by decide) ?_
                refine lv_istore (lv' := [(7, .int (0 : Int32)), (6, .int (0 : Int32)), (0, .ref (a 99)), (1, .int x1), (2, .int x2), (3, .int z35.1), (4, .int z35.2.1), (5, .int z35.2.2.1)]) hx hb dX6_cheap_65 hl11 (by decide) rfl (fun ls12 hl12 => ?_)
                clear hl11
                obtain ⟨r67, hr67, hm⟩ := bn hm
                obtain ⟨n67, hn67⟩ := lpC_ex hr67
                have hE67 : ∀ z67 : Int32 × Int32, m_X6_cheap_K67 z35 y47 z67 = some t35 → ∀ (H : Heap) (locs : List Loc), va_P D cls (wX6 q a y47.2) H → va_D (va_A (wX6 q a v) s.heap.size) (wX6 q a y47.2) → va_S (va_A (wX6 q a v) s.heap.size) s.heap H locs → ∀ ls : Array Slot, lv_has ls 8 [(0, .ref (a 99)), (1, .int x1), (2, .int x2), (3, .int z35.1), (4, .int z35.2.1), (5, .int z35.2.2.1), (6, .int z67.1)] → W p l e ((headSpec (mw yX6_cheap cX6_cheap 8 (some .int)) ({ frames := 4, cells := 0, slots := 0, locals := 96 } : Room)).room) s m [.ref (a 99), .int x1, .int x2].toArray below meth c H locs 0 0 (MQ below (va_Qi (fun r w => r = res.1 ∧ w = res.2) (bW D q (wX6 q a v) s.heap.size (fun (uu : SV) => wX6 q a uu)) (va_A (wX6 q a v) s.heap.size)) [.ref (a 99), .int x1, .int x2].toArray s 0 0 (va_A (wX6 q a v) s.heap.size)) (F0 m 109 ls []) := by
                  intro z67 hm H16 locs16 hP16 hD16 hS16 ls15 hl15
                  unfold m_X6_cheap_K67 at hm
                  refine lv_iload hx hb dX6_cheap_109 (lv_at hl15 6 rfl) ?_
                  refine lv_iload_n hx hb dX6_cheap_111 rfl (lv_at hl15 3 rfl) ?_
                  refine lv_icmp_ge (tgt := 120) hx hb dX6_cheap_112 (by decide) (fun c112 => ?_) (fun c112 => ?_)
                  · replace hm := tp hm c112
                    refine lv_iload hx hb dX6_cheap_120 (lv_at hl15 4 rfl) ?_
                    refine lv_istore (lv' := [(4, .int z35.2.1), (0, .ref (a 99)), (1, .int x1), (2, .int x2), (3, .int z35.1), (5, .int z35.2.2.1), (6, .int z67.1)]) hx hb dX6_cheap_122 hl15 (by decide) rfl (fun ls17 hl17 => ?_)
                    clear hl15
                    refine lv_iload hx hb dX6_cheap_124 (lv_at hl17 6 rfl) ?_
                    refine lv_iload_n hx hb dX6_cheap_126 rfl (lv_at hl17 4 rfl) ?_
                    refine lv_icmp_ge (tgt := 135) hx hb dX6_cheap_127 (by decide) (fun c127 => ?_) (fun c127 => ?_)
                    · replace hm := tp hm c127
                      refine lv_iload_n hx hb dX6_cheap_135 rfl (lv_at hl17 4 rfl) ?_
                      refine lv_istore_n (lv' := [(3, .int z35.1), (4, .int z35.2.1), (0, .ref (a 99)), (1, .int x1), (2, .int x2), (5, .int z35.2.2.1), (6, .int z67.1)]) hx hb dX6_cheap_136 rfl hl17 (by decide) rfl (fun ls18 hl18 => ?_)
                      clear hl17
                      refine lv_iinc (v := (z35.2.2.1 + (1 : Int32))) (lv' := [(5, .int (z35.2.2.1 + (1 : Int32))), (3, .int z35.1), (4, .int z35.2.1), (0, .ref (a 99)), (1, .int x1), (2, .int x2), (6, .int z67.1)]) hx hb dX6_cheap_137 hl18 (k := 5) rfl rfl (by decide) rfl (fun ls19 hl19 => ?_)
                      clear hl18
                      refine lv_goto (tgt := 35) hx hb dX6_cheap_140 (by decide) ?_
                      cases hm
                      exact ih35 (z35.1, z35.2.1, (z35.2.2.1 + (1 : Int32)), y47.2) ρ35 hz35 hK35 _ _ hP16 hD16 hS16 _ (lv_sub hl19 [3, 4, 5, 1, 2, 0] rfl)
                    · replace hm := tn hm c127
                      refine lv_iload hx hb dX6_cheap_130 (lv_at hl17 6 rfl) ?_
                      refine lv_goto (tgt := 136) hx hb dX6_cheap_132 (by decide) ?_
                      refine lv_istore_n (lv' := [(3, .int z67.1), (4, .int z35.2.1), (0, .ref (a 99)), (1, .int x1), (2, .int x2), (5, .int z35.2.2.1), (6, .int z67.1)]) hx hb dX6_cheap_136 rfl hl17 (by decide) rfl (fun ls20 hl20 => ?_)
                      clear hl17
                      refine lv_iinc (v := (z35.2.2.1 + (1 : Int32))) (lv' := [(5, .int (z35.2.2.1 + (1 : Int32))), (3, .int z67.1), (4, .int z35.2.1), (0, .ref (a 99)), (1, .int x1), (2, .int x2), (6, .int z67.1)]) hx hb dX6_cheap_137 hl20 (k := 5) rfl rfl (by decide) rfl (fun ls21 hl21 => ?_)
                      clear hl20
                      refine lv_goto (tgt := 35) hx hb dX6_cheap_140 (by decide) ?_
                      cases hm
                      exact ih35 (z67.1, z35.2.1, (z35.2.2.1 + (1 : Int32)), y47.2) ρ35 hz35 hK35 _ _ hP16 hD16 hS16 _ (lv_sub hl21 [3, 4, 5, 1, 2, 0] rfl)
                  · replace hm := tn hm c112
                    refine lv_iload hx hb dX6_cheap_115 (lv_at hl15 5 rfl) ?_
                    refine lv_goto (tgt := 122) hx hb dX6_cheap_117 (by decide) ?_
                    refine lv_istore (lv' := [(4, .int z35.2.2.1), (0, .ref (a 99)), (1, .int x1), (2, .int x2), (3, .int z35.1), (5, .int z35.2.2.1), (6, .int z67.1)]) hx hb dX6_cheap_122 hl15 (by decide) rfl (fun ls22 hl22 => ?_)
                    clear hl15
                    refine lv_iload hx hb dX6_cheap_124 (lv_at hl22 6 rfl) ?_
                    refine lv_iload_n hx hb dX6_cheap_126 rfl (lv_at hl22 4 rfl) ?_
                    refine lv_icmp_ge (tgt := 135) hx hb dX6_cheap_127 (by decide) (fun c127 => ?_) (fun c127 => ?_)
                    · replace hm := tp hm c127
                      refine lv_iload_n hx hb dX6_cheap_135 rfl (lv_at hl22 4 rfl) ?_
                      refine lv_istore_n (lv' := [(3, .int z35.1), (4, .int z35.2.2.1), (0, .ref (a 99)), (1, .int x1), (2, .int x2), (5, .int z35.2.2.1), (6, .int z67.1)]) hx hb dX6_cheap_136 rfl hl22 (by decide) rfl (fun ls23 hl23 => ?_)
                      clear hl22
                      refine lv_iinc (v := (z35.2.2.1 + (1 : Int32))) (lv' := [(5, .int (z35.2.2.1 + (1 : Int32))), (3, .int z35.1), (4, .int z35.2.2.1), (0, .ref (a 99)), (1, .int x1), (2, .int x2), (6, .int z67.1)]) hx hb dX6_cheap_137 hl23 (k := 5) rfl rfl (by decide) rfl (fun ls24 hl24 => ?_)
                      clear hl23
                      refine lv_goto (tgt := 35) hx hb dX6_cheap_140 (by decide) ?_
                      cases hm
                      exact ih35 (z35.1, z35.2.2.1, (z35.2.2.1 + (1 : Int32)), y47.2) ρ35 hz35 hK35 _ _ hP16 hD16 hS16 _ (lv_sub hl24 [3, 4, 5, 1, 2, 0] rfl)
                    · replace hm := tn hm c127
                      refine lv_iload hx hb dX6_cheap_130 (lv_at hl22 6 rfl) ?_
                      refine lv_goto (tgt := 136) hx hb dX6_cheap_132 (by decide) ?_
                      refine lv_istore_n (lv' := [(3, .int z67.1), (4, .int z35.2.2.1), (0, .ref (a 99)), (1, .int x1), (2, .int x2), (5, .int z35.2.2.1), (6, .int z67.1)]) hx hb dX6_cheap_136 rfl hl22 (by decide) rfl (fun ls25 hl25 => ?_)
                      clear hl22
                      refine lv_iinc (v := (z35.2.2.1 + (1 : Int32))) (lv' := [(5, .int (z35.2.2.1 + (1 : Int32))), (3, .int z67.1), (4, .int z35.2.2.1), (0, .ref (a 99)), (1, .int x1), (2, .int x2), (6, .int z67.1)]) hx hb dX6_cheap_137 hl25 (k := 5) rfl rfl (by decide) rfl (fun ls26 hl26 => ?_)
                      clear hl25
                      refine lv_goto (tgt := 35) hx hb dX6_cheap_140 (by decide) ?_
                      cases hm
                      exact ih35 (z67.1, z35.2.2.1, (z35.2.2.1 + (1 : Int32)), y47.2) ρ35 hz35 hK35 _ _ hP16 hD16 hS16 _ (lv_sub hl26 [3, 4, 5, 1, 2, 0] rfl)
                have hL67 : ∀ (n : Nat) (z67 : Int32 × Int32) (ρ67 : Int32 × Int32), lpO (m_X6_cheap_L67 y47) n z67 = some ρ67 → (m_X6_cheap_K67 z35 y47) ρ67 = some t35 → ∀ (H : Heap) (locs : List Loc), va_P D cls (wX6 q a y47.2) H → va_D (va_A (wX6 q a v) s.heap.size) (wX6 q a y47.2) → va_S (va_A (wX6 q a v) s.heap.size) s.heap H locs → ∀ ls : Array Slot, lv_has ls 8 [(0, .ref (a 99)), (1, .int x1), (2, .int x2), (3, .int z35.1), (4, .int z35.2.1), (5, .int z35.2.2.1), (6, .int z67.1), (7, .int z67.2)] → W p l e ((headSpec (mw yX6_cheap cX6_cheap 8 (some .int)) ({ frames := 4, cells := 0, slots := 0, locals := 96 } : Room)).room) s m [.ref (a 99), .int x1, .int x2].toArray below meth c H locs 0 0 (MQ below (va_Qi (fun r w => r = res.1 ∧ w = res.2) (bW D q (wX6 q a v) s.heap.size (fun (uu : SV) => wX6 q a uu)) (va_A (wX6 q a v) s.heap.size)) [.ref (a 99), .int x1, .int x2].toArray s 0 0 (va_A (wX6 q a v) s.heap.size)) (F0 m 67 ls []) := by
                  intro n
                  induction n with
                  | zero => intro _ _ h; cases h
                  | succ n ih67 =>
                    intro z67 ρ67 hz67 hK67 H14 locs14 hP14 hD14 hS14 ls13 hl13
                    obtain ⟨t67, hm, hz67⟩ := bn hz67
                    unfold m_X6_cheap_L67 at hm
                    refine lv_iload hx hb dX6_cheap_67 (lv_at hl13 7 rfl) ?_
                    refine lv_aload_n hx hb dX6_cheap_69 rfl (lv_at hl13 0 rfl) ?_
                    refine va_get (D := D) (ci := 6) (v := .int (y47.2 0 1)) (C := RX6) (T := TX6) (N := 40) hx hb hW iX6 hown hK hP14 0 rfl rfl 1 (by decide) (hW _ k_868) (fun _ h => h) rfl dX6_cheap_70 ?_
                    refine lv_icmp_ge (tgt := 109) hx hb dX6_cheap_73 (by decide) (fun c73 => ?_) (fun c73 => ?_)
                    · replace hm := tp hm c73
                      cases hm
                      cases hz67
                      exact hE67 (z67.1, z67.2) hK67 _ _ hP14 hD14 hS14 _ (lv_sub hl13 [0, 1, 2, 3, 4, 5, 6] rfl)
                    · replace hm := tn hm c73
                      refine lv_iload hx hb dX6_cheap_76 (lv_at hl13 6 rfl) ?_
                      refine lv_aload_n hx hb dX6_cheap_78 rfl (lv_at hl13 0 rfl) ?_
                      refine va_get (D := D) (ci := 6) (v := .ref (a 0)) (C := RX6) (T := TX6) (N := 40) hx hb hW iX6 hown hK hP14 0 rfl rfl 0 (by decide) (hW _ k_867) (fun _ h => h) rfl dX6_cheap_79 ?_
                      refine lv_bipush (v := (46 : Int32)) hx hb dX6_cheap_82 (by decide) ?_
                      refine lv_aload_n hx hb dX6_cheap_84 rfl (lv_at hl13 0 rfl) ?_
                      refine va_get (D := D) (ci := 6) (v := .ref (a 30)) (C := RX6) (T := TX6) (N := 40) hx hb hW iX6 hown hK hP14 0 rfl rfl 30 (by decide) (hW _ k_897) (fun _ h => h) rfl dX6_cheap_85 ?_
                      refine lv_iload hx hb dX6_cheap_88 (lv_at hl13 7 rfl) ?_
                      obtain ⟨h27, hm⟩ := ckd hm
                      refine va_iald (f := (y47.2 30)) hx hb hK hP14 11 0 rfl rfl (inB_vp h27) dX6_cheap_90 ?_
                      refine lv_iadd hx hb dX6_cheap_91 ?_
                      obtain ⟨h28, hm⟩ := ckd hm
                      refine va_iald (f := (y47.2 50)) hx hb hK hP14 1 0 rfl rfl (inB_vp h28) dX6_cheap_92 ?_
                      refine lv_aload_n hx hb dX6_cheap_93 rfl (lv_at hl13 0 rfl) ?_
                      refine lv_iload hx hb dX6_cheap_94 (lv_at hl13 7 rfl) ?_
                      obtain ⟨y96, hy96, hm⟩ := bn hm
                      refine cVRi (As := [.int z67.2]) (rest := [.int (y47.2 50 ((((46 : Int32) + (y47.2 30 ((z67.2).toNatClampNeg)))).toNatClampNeg)), .int z67.1]) X hP14 hl13.1 (c_X6_worthOf l D q a y47.2 z67.2 y96 hy96) [0, 1, 2, 3, 4, 5, 6, 7, 8, 9, 10, 11, 12, 13, 14, 15, 16, 17] rfl 0 rfl rfl rfl k_1090 mX6_worthOf ⟨rfl, rfl⟩ ⟨Nat.le_of_ble_eq_true rfl, Nat.le_of_ble_eq_true rfl⟩ rfl rfl (Nat.le_of_ble_eq_true rfl) dX6_cheap_96 ⟨Nat.zero_le _, Nat.zero_le _⟩ ?_
                      refine lv_imul hx hb dX6_cheap_99 ?_
                      refine lv_iadd hx hb dX6_cheap_100 ?_
                      refine lv_istore (lv' := [(6, .int (z67.1 + ((y47.2 50 ((((46 : Int32) + (y47.2 30 ((z67.2).toNatClampNeg)))).toNatClampNeg)) * y96))), (0, .ref (a 99)), (1, .int x1), (2, .int x2), (3, .int z35.1), (4, .int z35.2.1), (5, .int z35.2.2.1), (7, .int z67.2)]) hx hb dX6_cheap_101 hl13 (by decide) rfl (fun ls29 hl29 => ?_)
                      clear hl13
                      refine lv_iinc (v := (z67.2 + (1 : Int32))) (lv' := [(7, .int (z67.2 + (1 : Int32))), (6, .int (z67.1 + ((y47.2 50 ((((46 : Int32) + (y47.2 30 ((z67.2).toNatClampNeg)))).toNatClampNeg)) * y96))), (0, .ref (a 99)), (1, .int x1), (2, .int x2), (3, .int z35.1), (4, .int z35.2.1), (5, .int z35.2.2.1)]) hx hb dX6_cheap_103 hl29 (k := 7) rfl rfl (by decide) rfl (fun ls30 hl30 => ?_)
                      clear hl29
                      refine lv_goto (tgt := 67) hx hb dX6_cheap_106 (by decide) ?_
                      cases hm
                      exact ih67 ((z67.1 + ((y47.2 50 ((((46 : Int32) + (y47.2 30 ((z67.2).toNatClampNeg)))).toNatClampNeg)) * y96)), (z67.2 + (1 : Int32))) ρ67 hz67 hK67 _ _ hP14 hD14 hS14 _ (lv_sub hl30 [2, 3, 4, 5, 6, 7, 1, 0] rfl)
                exact hL67 n67 ((0 : Int32), (0 : Int32)) r67 hn67 hm _ _ hP8 hD8 hS8 _ (lv_sub hl12 [2, 3, 4, 5, 6, 7, 1, 0] rfl)
      exact hL35 n35 ((1000000 : Int32), (-4 : Int32), (0 : Int32), v) r35 hn35 hm _ _ hP0 hD0 hS0 _ (lv_sub hl3 [3, 4, 5, 2, 1, 0] rfl)
    · replace hm := tp hm c19
      refine lv_iconst (v := (-1 : Int32)) hx hb dX6_cheap_22 (by decide) ?_
      exact eWi (Wf := fun (uu : SV) => wX6 q a uu) (u := v) X hr hlocks hP0 hD0 hS0 hm dX6_cheap_23
noncomputable def m_X6_next_K20 (x1 : Int32) (z20 : Int32 × Int32 × Int32 × SV) : Option (Int32 × SV) :=
  (if z20.2.1 = (-4 : Int32) then some (z20.2.1, z20.2.2.2) else (if x1 = 0 then some (z20.2.1, z20.2.2.2) else some (z20.1, z20.2.2.2)))
noncomputable def m_X6_next_K32 (z20 : Int32 × Int32 × Int32 × SV) (z32 : Int32 × Int32 × Int32 × SV) : Option ((Int32 × Int32 × Int32 × SV) ⊕ (Int32 × Int32 × Int32 × SV)) :=
  some (.inl (z32.1, z32.2.1, (z20.2.2.1 + (1 : Int32)), z32.2.2.2))
noncomputable def m_X6_next_L32 (z20 : Int32 × Int32 × Int32 × SV) (z32 : Int32 × Int32 × Int32 × SV) : Option ((Int32 × Int32 × Int32 × SV) ⊕ (Int32 × Int32 × Int32 × SV)) :=
  (if (z32.2.2.2 0 2) ≤ z32.2.2.1 then some (.inr (z32.1, z32.2.1, z32.2.2.1, z32.2.2.2)) else (m_X6_copies z32.2.2.2 (0 : Int32) (252 : Int32)).bind (fun y46 => (m_X6_paintsOn y46 (252 : Int32) z20.2.2.1 z32.2.2.1).bind (fun y57 => (m_X6_likeBondsOn y57 (252 : Int32)).bind (fun y64 => (if y64 ≤ z32.1 then (if y64 ≤ z32.1 then some (.inl (z32.1, z32.2.1, (z32.2.2.1 + (1 : Int32)), y57)) else some (.inl (y64, z32.2.1, (z32.2.2.1 + (1 : Int32)), y57))) else (if y64 ≤ z32.1 then some (.inl (z32.1, (((10 : Int32) * z20.2.2.1) + z32.2.2.1), (z32.2.2.1 + (1 : Int32)), y57)) else some (.inl (y64, (((10 : Int32) * z20.2.2.1) + z32.2.2.1), (z32.2.2.1 + (1 : Int32)), y57))))))))
noncomputable def m_X6_next_L20 (z20 : Int32 × Int32 × Int32 × SV) : Option ((Int32 × Int32 × Int32 × SV) ⊕ (Int32 × Int32 × Int32 × SV)) :=
  (if (z20.2.2.2 0 1) ≤ z20.2.2.1 then some (.inr (z20.1, z20.2.1, z20.2.2.1, z20.2.2.2)) else (lpC (m_X6_next_L32 z20) (z20.1, z20.2.1, (0 : Int32), z20.2.2.2)).bind (m_X6_next_K32 z20))
noncomputable def m_X6_next (v : SV) (x1 : Int32) : Option (Int32 × SV) :=
  (m_X6_in (x1.toInt64) (0 : Int64) (1 : Int64)).bind (fun y4 => (if y4 = 0 then some ((-1 : Int32), v) else (lpC (m_X6_next_L20) ((-1 : Int32), (-4 : Int32), (0 : Int32), v)).bind (m_X6_next_K20 x1)))
set_option maxHeartbeats 4000000 in
set_option maxRecDepth 100000 in
theorem c_X6_next (l : Launch) (D : va_G) (q : Nat → ClassId) (sz : Nat) (a : Nat → Nat) (v : SV) (x1 : Int32) (res : Int32 × SV) (hm : m_X6_next v x1 = some res) : Met l yX6_next (mw yX6_next cX6_next 7 (some .int)) ({ frames := 5, cells := 0, slots := 0, locals := 119 } : Room) (pcW D q (wX6 q a v) sz [.ref (a 99), .int x1]) (va_Qi (fun r w => r = res.1 ∧ w = res.2) (bW D q (wX6 q a v) sz (fun (uu : SV) => wX6 q a uu)) (va_A (wX6 q a v) sz)) 0 0 (va_A (wX6 q a v) sz) := by
  refine Met.ofW (cc := cX6_next) (maxL := 7) (ret := (some .int)) (by decide) rfl ?_
  intro p e s m args below meth c s₁ B hml hv
  obtain ⟨rfl, hsz, hP0, hK, hD0⟩ := hv
  have hx := B.exec
  have hb := B.bytes
  have hr := B.returns
  have hW := mw_ws (atoms_spec (ws := mw yX6_next cX6_next 7 (some .int)) B.pre)
  have hown : s.vm.findClass RX6 = some m.cls := findClass_of_methodNamed B.named
  have hlocks := B.notSynchronized
  have X : Cx p s m [.ref (a 99), .int x1].toArray c cX6_next 7 RX6 D q := ⟨hx, hb, hml, hown, hW, hK⟩
  subst hsz
  replace hD0 := hD0.self (sz := s.heap.size)
  have hS0 : va_S (va_A (wX6 q a v) s.heap.size) s.heap s.heap [] := va_S.rf
  have hl0 := lv_entry ([.ref (a 99), .int x1]) (n := 7) (Nat.le_of_ble_eq_true rfl)
  rw [lg_entry_eq]
  generalize (lg_sl ([.ref (a 99), .int x1]) ++ List.replicate (7 - (lg_sl ([.ref (a 99), .int x1])).length) Slot.unset).toArray = ls0 at hl0 ⊢
  have hl0 : lv_has ls0 7 [(0, .ref (a 99)), (1, .int x1)] := hl0
  unfold m_X6_next at hm
  refine lv_iload_n hx hb dX6_next_0 rfl (lv_at hl0 1 rfl) ?_
  refine lv_i2l hx hb dX6_next_1 rfl ?_
  refine lv_lconst (v := (0 : Int64)) hx hb dX6_next_2 (by decide) ?_
  refine lv_lconst (v := (1 : Int64)) hx hb dX6_next_3 (by decide) ?_
  obtain ⟨y4, hy4, hm⟩ := bn hm
  refine cSRi (As := [.long (x1.toInt64), .long (0 : Int64), .long (1 : Int64)]) (rest := []) X hP0 hl0.1 (c_X6_in l D q (x1.toInt64) (0 : Int64) (1 : Int64) y4 hy4) [] rfl k_993 mX6_in ⟨rfl, rfl⟩ ⟨Nat.le_of_ble_eq_true rfl, Nat.le_of_ble_eq_true rfl⟩ rfl rfl (Nat.le_of_ble_eq_true rfl) dX6_next_4 ⟨Nat.zero_le _, Nat.zero_le _⟩ ?_
  refine lv_if_ne (tgt := 12) hx hb dX6_next_7 (by decide) (fun c7 => ?_) (fun c7 => ?_)
  · replace hm := tn hm c7
    refine lv_iconst (v := (-1 : Int32)) hx hb dX6_next_12 (by decide) ?_
    refine lv_istore_n (lv' := [(2, .int (-1 : Int32)), (0, .ref (a 99)), (1, .int x1)]) hx hb dX6_next_13 rfl hl0 (by decide) rfl (fun ls1 hl1 => ?_)
    clear hl0
    refine lv_bipush (v := (-4 : Int32)) hx hb dX6_next_14 (by decide) ?_
    refine lv_istore_n (lv' := [(3, .int (-4 : Int32)), (2, .int (-1 : Int32)), (0, .ref (a 99)), (1, .int x1)]) hx hb dX6_next_16 rfl hl1 (by decide) rfl (fun ls2 hl2 => ?_)
    clear hl1
    refine lv_iconst (v := (0 : Int32)) hx hb dX6_next_17 (by decide) ?_
    refine lv_istore (lv' := [(4, .int (0 : Int32)), (3, .int (-4 : Int32)), (2, .int (-1 : Int32)), (0, .ref (a 99)), (1, .int x1)]) hx hb dX6_next_18 hl2 (by decide) rfl (fun ls3 hl3 => ?_)
    clear hl2
    obtain ⟨r20, hr20, hm⟩ := bn hm
    obtain ⟨n20, hn20⟩ := lpC_ex hr20
    have hE20 : ∀ z20 : Int32 × Int32 × Int32 × SV, m_X6_next_K20 x1 z20 = some res → ∀ (H : Heap) (locs : List Loc), va_P D cls (wX6 q a z20.2.2.2) H → va_D (va_A (wX6 q a v) s.heap.size) (wX6 q a z20.2.2.2) → va_S (va_A (wX6 q a v) s.heap.size) s.heap H locs → ∀ ls : Array Slot, lv_has ls 7 [(1, .int x1), (2, .int z20.1), (3, .int z20.2.1)] → W p l e ((headSpec (mw yX6_next cX6_next 7 (some .int)) ({ frames := 5, cells := 0, slots := 0, locals := 119 } : Room)).room) s m [.ref (a 99), .int x1].toArray below meth c H locs 0 0 (MQ below (va_Qi (fun r w => r = res.1 ∧ w = res.2) (bW D q (wX6 q a v) s.heap.size (fun (uu : SV) => wX6 q a uu)) (va_A (wX6 q a v) s.heap.size)) [.ref (a 99), .int x1].toArray s 0 0 (va_A (wX6 q a v) s.heap.size)) (F0 m 113 ls []) := by
      intro z20 hm H7 locs7 hP7 hD7 hS7 ls6 hl6
      unfold m_X6_next_K20 at hm
      refine lv_iload_n hx hb dX6_next_113 rfl (lv_at hl6 2 rfl) ?_
      refine lv_bipush (v := (-4 : Int32)) hx hb dX6_next_114 (by decide) ?_
      refine lv_icmp_eq (tgt := 123) hx hb dX6_next_116 (by decide) (fun c116 => ?_) (fun c116 => ?_)
      · replace hm := tp hm c116
        refine lv_iload_n hx hb dX6_next_123 rfl (lv_at hl6 2 rfl) ?_
        refine lv_goto (tgt := 128) hx hb dX6_next_124 (by decide) ?_
        exact eWi (Wf := fun (uu : SV) => wX6 q a uu) (u := z20.2.2.2) X hr hlocks hP7 hD7 hS7 hm dX6_next_128
      · replace hm := tn hm c116
        refine lv_iload_n hx hb dX6_next_119 rfl (lv_at hl6 0 rfl) ?_
        refine lv_if_ne (tgt := 127) hx hb dX6_next_120 (by decide) (fun c120 => ?_) (fun c120 => ?_)
        · replace hm := tn hm c120
          refine lv_iload_n hx hb dX6_next_127 rfl (lv_at hl6 1 rfl) ?_
          exact eWi (Wf := fun (uu : SV) => wX6 q a uu) (u := z20.2.2.2) X hr hlocks hP7 hD7 hS7 hm dX6_next_128
        · replace hm := tp hm c120
          refine lv_iload_n hx hb dX6_next_123 rfl (lv_at hl6 2 rfl) ?_
          refine lv_goto (tgt := 128) hx hb dX6_next_124 (by decide) ?_
          exact eWi (Wf := fun (uu : SV) => wX6 q a uu) (u := z20.2.2.2) X hr hlocks hP7 hD7 hS7 hm dX6_next_128
    have hL20 : ∀ (n : Nat) (z20 : Int32 × Int32 × Int32 × SV) (ρ20 : Int32 × Int32 × Int32 × SV), lpO (m_X6_next_L20) n z20 = some ρ20 → (m_X6_next_K20 x1) ρ20 = some res → ∀ (H : Heap) (locs : List Loc), va_P D cls (wX6 q a z20.2.2.2) H → va_D (va_A (wX6 q a v) s.heap.size) (wX6 q a z20.2.2.2) → va_S (va_A (wX6 q a v) s.heap.size) s.heap H locs → ∀ ls : Array Slot, lv_has ls 7 [(0, .ref (a 99)), (1, .int x1), (2, .int z20.1), (3, .int z20.2.1), (4, .int z20.2.2.1)] → W p l e ((headSpec (mw yX6_next cX6_next 7 (some .int)) ({ frames := 5, cells := 0, slots := 0, locals := 119 } : Room)).room) s m [.ref (a 99), .int x1].toArray below meth c H locs 0 0 (MQ below (va_Qi (fun r w => r = res.1 ∧ w = res.2) (bW D q (wX6 q a v) s.heap.size (fun (uu : SV) => wX6 q a uu)) (va_A (wX6 q a v) s.heap.size)) [.ref (a 99), .int x1].toArray s 0 0 (va_A (wX6 q a v) s.heap.size)) (F0 m 20 ls []) := by
      intro n
      induction n with
      | zero => intro _ _ h; cases h
      | succ n ih20 =>
        intro z20 ρ20 hz20 hK20 H5 locs5 hP5 hD5 hS5 ls4 hl4
        obtain ⟨t20, hm, hz20⟩ := bn hz20
        unfold m_X6_next_L20 at hm
        refine lv_iload hx hb dX6_next_20 (lv_at hl4 4 rfl) ?_
        refine lv_aload_n hx hb dX6_next_22 rfl (lv_at hl4 0 rfl) ?_
        refine va_get (D := D) (ci := 6) (v := .int (z20.2.2.2 0 1)) (C := RX6) (T := TX6) (N := 40) hx hb hW iX6 hown hK hP5 0 rfl rfl 1 (by decide) (hW _ k_868) (fun _ h => h) rfl dX6_next_23 ?_
        refine lv_icmp_ge (tgt := 113) hx hb dX6_next_26 (by decide) (fun c26 => ?_) (fun c26 => ?_)
        · replace hm := tp hm c26
          cases hm
          cases hz20
          exact hE20 (z20.1, z20.2.1, z20.2.2.1, z20.2.2.2) hK20 _ _ hP5 hD5 hS5 _ (lv_sub hl4 [1, 2, 3] rfl)
        · replace hm := tn hm c26
          refine lv_iconst (v := (0 : Int32)) hx hb dX6_next_29 (by decide) ?_
          refine lv_istore (lv' := [(5, .int (0 : Int32)), (0, .ref (a 99)), (1, .int x1), (2, .int z20.1), (3, .int z20.2.1), (4, .int z20.2.2.1)]) hx hb dX6_next_30 hl4 (by decide) rfl (fun ls8 hl8 => ?_)
          clear hl4
          obtain ⟨r32, hr32, hm⟩ := bn hm
          obtain ⟨n32, hn32⟩ := lpC_ex hr32
          have hE32 : ∀ z32 : Int32 × Int32 × Int32 × SV, m_X6_next_K32 z20 z32 = some t20 → ∀ (H : Heap) (locs : List Loc), va_P D cls (wX6 q a z32.2.2.2) H → va_D (va_A (wX6 q a v) s.heap.size) (wX6 q a z32.2.2.2) → va_S (va_A (wX6 q a v) s.heap.size) s.heap H locs → ∀ ls : Array Slot, lv_has ls 7 [(0, .ref (a 99)), (1, .int x1), (4, .int z20.2.2.1), (2, .int z32.1), (3, .int z32.2.1)] → W p l e ((headSpec (mw yX6_next cX6_next 7 (some .int)) ({ frames := 5, cells := 0, slots := 0, locals := 119 } : Room)).room) s m [.ref (a 99), .int x1].toArray below meth c H locs 0 0 (MQ below (va_Qi (fun r w => r = res.1 ∧ w = res.2) (bW D q (wX6 q a v) s.heap.size (fun (uu : SV) => wX6 q a uu)) (va_A (wX6 q a v) s.heap.size)) [.ref (a 99), .int x1].toArray s 0 0 (va_A (wX6 q a v) s.heap.size)) (F0 m 107 ls []) := by
            intro z32 hm H12 locs12 hP12 hD12 hS12 ls11 hl11
            unfold m_X6_next_K32 at hm
            refine lv_iinc (v := (z20.2.2.1 + (1 : Int32))) (lv' := [(4, .int (z20.2.2.1 + (1 : Int32))), (0, .ref (a 99)), (1, .int x1), (2, .int z32.1), (3, .int z32.2.1)]) hx hb dX6_next_107 hl11 (k := 2) rfl rfl (by decide) rfl (fun ls13 hl13 => ?_)
            clear hl11
            refine lv_goto (tgt := 20) hx hb dX6_next_110 (by decide) ?_
            cases hm
            exact ih20 (z32.1, z32.2.1, (z20.2.2.1 + (1 : Int32)), z32.2.2.2) ρ20 hz20 hK20 _ _ hP12 hD12 hS12 _ (lv_sub hl13 [1, 2, 3, 4, 0] rfl)
          have hL32 : ∀ (n : Nat) (z32 : Int32 × Int32 × Int32 × SV) (ρ32 : Int32 × Int32 × Int32 × SV), lpO (m_X6_next_L32 z20) n z32 = some ρ32 → (m_X6_next_K32 z20) ρ32 = some t20 → ∀ (H : Heap) (locs : List Loc), va_P D cls (wX6 q a z32.2.2.2) H → va_D (va_A (wX6 q a v) s.heap.size) (wX6 q a z32.2.2.2) → va_S (va_A (wX6 q a v) s.heap.size) s.heap H locs → ∀ ls : Array Slot, lv_has ls 7 [(0, .ref (a 99)), (1, .int x1), (4, .int z20.2.2.1), (2, .int z32.1), (3, .int z32.2.1), (5, .int z32.2.2.1)] → W p l e ((headSpec (mw yX6_next cX6_next 7 (some .int)) ({ frames := 5, cells := 0, slots := 0, locals := 119 } : Room)).room) s m [.ref (a 99), .int x1].toArray below meth c H locs 0 0 (MQ below (va_Qi (fun r w => r = res.1 ∧ w = res.2) (bW D q (wX6 q a v) s.heap.size (fun (uu : SV) => wX6 q a uu)) (va_A (wX6 q a v) s.heap.size)) [.ref (a 99), .int x1].toArray s 0 0 (va_A (wX6 q a v) s.heap.size)) (F0 m 32 ls []) := by
            intro n
            induction n with
            | zero => intro _ _ h; cases h
            | succ n ih32 =>
              intro z32 ρ32 hz32 hK32 H10 locs10 hP10 hD10 hS10 ls9 hl9
              obtain ⟨t32, hm, hz32⟩ := bn hz32
              unfold m_X6_next_L32 at hm
              refine lv_iload hx hb dX6_next_32 (lv_at hl9 5 rfl) ?_
              refine lv_aload_n hx hb dX6_next_34 rfl (lv_at hl9 0 rfl) ?_
              refine va_get (D := D) (ci := 6) (v := .int (z32.2.2.2 0 2)) (C := RX6) (T := TX6) (N := 40) hx hb hW iX6 hown hK hP10 0 rfl rfl 2 (by decide) (hW _ k_869) (fun _ h => h) rfl dX6_next_35 ?_
              refine lv_icmp_ge (tgt := 107) hx hb dX6_next_38 (by decide) (fun c38 => ?_) (fun c38 => ?_)
              · replace hm := tp hm c38
                cases hm
                cases hz32
                exact hE32 (z32.1, z32.2.1, z32.2.2.1, z32.2.2.2) hK32 _ _ hP10 hD10 hS10 _ (lv_sub hl9 [0, 1, 2, 3, 4] rfl)
              · replace hm := tn hm c38
                refine lv_aload_n hx hb dX6_next_41 rfl (lv_at hl9 0 rfl) ?_
                refine lv_iconst (v := (0 : Int32)) hx hb dX6_next_42 (by decide) ?_
                refine lv_sipush (v := (252 : Int32)) hx hb dX6_next_43 (by decide) ?_
                obtain ⟨y46, hy46, hm⟩ := bn hm
                refine cVWv (As := [.int (0 : Int32), .int (252 : Int32)]) (rest := []) (Wn := fun (uu : SV) => wX6 q a uu) X hP10 hD10 hS10 (fun _ h => Or.inr h) hl9.1 (c_X6_copies l D q H10.size a z32.2.2.2 (0 : Int32) (252 : Int32) y46 hy46) [0, 1, 2, 3, 4, 5, 6, 7, 8, 9, 10, 11, 12, 13, 14, 15, 16, 17] [] [0, 1, 2, 3, 4, 5, 6, 7, 8, 9, 10, 11, 12, 13, 14, 15, 16, 17] rfl (Wr := []) rfl (by decide) (by decide) (by decide) (by decide) (fun _ => rfl) 0 rfl rfl rfl k_1183 mX6_copies ⟨rfl, rfl⟩ ⟨Nat.le_of_ble_eq_true rfl, Nat.le_of_ble_eq_true rfl⟩ rfl rfl (Nat.le_of_ble_eq_true rfl) dX6_next_46 ⟨Nat.zero_le _, Nat.zero_le _⟩ (fun H14 locs14 hP hD hS14 => ?_)
                have hP14 : va_P D cls (wX6 q a y46) H14 := hP
                have hD14 : va_D (va_A (wX6 q a v) s.heap.size) (wX6 q a y46) := hD
                clear hP hD hP10 hD10 hS10
                refine lv_aload_n hx hb dX6_next_49 rfl (lv_at hl9 0 rfl) ?_
                refine lv_sipush (v := (252 : Int32)) hx hb dX6_next_50 (by decide) ?_
                refine lv_iload hx hb dX6_next_53 (lv_at hl9 2 rfl) ?_
                refine lv_iload hx hb dX6_next_55 (lv_at hl9 5 rfl) ?_
                obtain ⟨y57, hy57, hm⟩ := bn hm
                refine cVWv (As := [.int (252 : Int32), .int z20.2.2.1, .int z32.2.2.1]) (rest := []) (Wn := fun (uu : SV) => wX6 q a uu) X hP14 hD14 hS14 (fun _ h => Or.inr h) hl9.1 (c_X6_paintsOn l D q H14.size a y46 (252 : Int32) z20.2.2.1 z32.2.2.1 y57 hy57) [0, 1, 2, 3, 4, 5, 6, 7, 8, 9, 10, 11, 12, 13, 14, 15, 16, 17] [] [0, 1, 2, 3, 4, 5, 6, 7, 8, 9, 10, 11, 12, 13, 14, 15, 16, 17] rfl (Wr := []) rfl (by decide) (by decide) (by decide) (by decide) (fun _ => rfl) 0 rfl rfl rfl k_1140 mX6_paintsOn ⟨rfl, rfl⟩ ⟨Nat.le_of_ble_eq_true rfl, Nat.le_of_ble_eq_true rfl⟩ rfl rfl (Nat.le_of_ble_eq_true rfl) dX6_next_57 ⟨Nat.zero_le _, Nat.zero_le _⟩ (fun H15 locs15 hP hD hS15 => ?_)
                have hP15 : va_P D cls (wX6 q a y57) H15 := hP
                have hD15 : va_D (va_A (wX6 q a v) s.heap.size) (wX6 q a y57) := hD
                clear hP hD hP14 hD14 hS14
                refine lv_aload_n hx hb dX6_next_60 rfl (lv_at hl9 0 rfl) ?_
                refine lv_sipush (v := (252 : Int32)) hx hb dX6_next_61 (by decide) ?_
                obtain ⟨y64, hy64, hm⟩ := bn hm
                refine cVRi (As := [.int (252 : Int32)]) (rest := []) X hP15 hl9.1 (c_X6_likeBondsOn l D q a y57 (252 : Int32) y64 hy64) [0, 1, 2, 3, 4, 5, 6, 7, 8, 9, 10, 11, 12, 13, 14, 15, 16, 17] rfl 0 rfl rfl rfl k_1225 mX6_likeBondsOn ⟨rfl, rfl⟩ ⟨Nat.le_of_ble_eq_true rfl, Nat.le_of_ble_eq_true rfl⟩ rfl rfl (Nat.le_of_ble_eq_true rfl) dX6_next_64 ⟨Nat.zero_le _, Nat.zero_le _⟩ ?_
                refine lv_istore (lv' := [(6, .int y64), (0, .ref (a 99)), (1, .int x1), (4, .int z20.2.2.1), (2, .int z32.1), (3, .int z32.2.1), (5, .int z32.2.2.1)]) hx hb dX6_next_67 hl9 (by decide) rfl (fun ls16 hl16 => ?_)
                clear hl9
                refine lv_iload hx hb dX6_next_69 (lv_at hl16 0 rfl) ?_
                refine lv_iload_n hx hb dX6_next_71 rfl (lv_at hl16 4 rfl) ?_
                refine lv_icmp_le (tgt := 86) hx hb dX6_next_72 (by decide) (fun c72 => ?_) (fun c72 => ?_)
                · replace hm := tp hm c72
                  refine lv_iload_n hx hb dX6_next_86 rfl (lv_at hl16 5 rfl) ?_
                  refine lv_istore_n (lv' := [(3, .int z32.2.1), (6, .int y64), (0, .ref (a 99)), (1, .int x1), (4, .int z20.2.2.1), (2, .int z32.1), (5, .int z32.2.2.1)]) hx hb dX6_next_87 rfl hl16 (by decide) rfl (fun ls17 hl17 => ?_)
                  clear hl16
                  refine lv_iload hx hb dX6_next_88 (lv_at hl17 1 rfl) ?_
                  refine lv_iload_n hx hb dX6_next_90 rfl (lv_at hl17 5 rfl) ?_
                  refine lv_icmp_le (tgt := 99) hx hb dX6_next_91 (by decide) (fun c91 => ?_) (fun c91 => ?_)
                  · replace hm := tp hm c91
                    refine lv_iload_n hx hb dX6_next_99 rfl (lv_at hl17 5 rfl) ?_
                    refine lv_istore_n (lv' := [(2, .int z32.1), (3, .int z32.2.1), (6, .int y64), (0, .ref (a 99)), (1, .int x1), (4, .int z20.2.2.1), (5, .int z32.2.2.1)]) hx hb dX6_next_100 rfl hl17 (by decide) rfl (fun ls18 hl18 => ?_)
                    clear hl17
                    refine lv_iinc (v := (z32.2.2.1 + (1 : Int32))) (lv' := [(5, .int (z32.2.2.1 + (1 : Int32))), (2, .int z32.1), (3, .int z32.2.1), (6, .int y64), (0, .ref (a 99)), (1, .int x1), (4, .int z20.2.2.1)]) hx hb dX6_next_101 hl18 (k := 6) rfl rfl (by decide) rfl (fun ls19 hl19 => ?_)
                    clear hl18
                    refine lv_goto (tgt := 32) hx hb dX6_next_104 (by decide) ?_
                    cases hm
                    exact ih32 (z32.1, z32.2.1, (z32.2.2.1 + (1 : Int32)), y57) ρ32 hz32 hK32 _ _ hP15 hD15 hS15 _ (lv_sub hl19 [4, 5, 6, 1, 2, 0] rfl)
                  · replace hm := tn hm c91
                    refine lv_iload hx hb dX6_next_94 (lv_at hl17 1 rfl) ?_
                    refine lv_goto (tgt := 100) hx hb dX6_next_96 (by decide) ?_
                    refine lv_istore_n (lv' := [(2, .int y64), (3, .int z32.2.1), (6, .int y64), (0, .ref (a 99)), (1, .int x1), (4, .int z20.2.2.1), (5, .int z32.2.2.1)]) hx hb dX6_next_100 rfl hl17 (by decide) rfl (fun ls20 hl20 => ?_)
                    clear hl17
                    refine lv_iinc (v := (z32.2.2.1 + (1 : Int32))) (lv' := [(5, .int (z32.2.2.1 + (1 : Int32))), (2, .int y64), (3, .int z32.2.1), (6, .int y64), (0, .ref (a 99)), (1, .int x1), (4, .int z20.2.2.1)]) hx hb dX6_next_101 hl20 (k := 6) rfl rfl (by decide) rfl (fun ls21 hl21 => ?_)
                    clear hl20
                    refine lv_goto (tgt := 32) hx hb dX6_next_104 (by decide) ?_
                    cases hm
                    exact ih32 (y64, z32.2.1, (z32.2.2.1 + (1 : Int32)), y57) ρ32 hz32 hK32 _ _ hP15 hD15 hS15 _ (lv_sub hl21 [4, 5, 6, 1, 2, 0] rfl)
                · replace hm := tn hm c72
                  refine lv_bipush (v := (10 : Int32)) hx hb dX6_next_75 (by decide) ?_
                  refine lv_iload hx hb dX6_next_77 (lv_at hl16 3 rfl) ?_
                  refine lv_imul hx hb dX6_next_79 ?_
                  refine lv_iload hx hb dX6_next_80 (lv_at hl16 6 rfl) ?_
                  refine lv_iadd hx hb dX6_next_82 ?_
                  refine lv_goto (tgt := 87) hx hb dX6_next_83 (by decide) ?_
                  refine lv_istore_n (lv' := [(3, .int (((10 : Int32) * z20.2.2.1) + z32.2.2.1)), (6, .int y64), (0, .ref (a 99)), (1, .int x1), (4, .int z20.2.2.1), (2, .int z32.1), (5, .int z32.2.2.1)]) hx hb dX6_next_87 rfl hl16 (by decide) rfl (fun ls22 hl22 => ?_)
                  clear hl16
                  refine lv_iload hx hb dX6_next_88 (lv_at hl22 1 rfl) ?_
                  refine lv_iload_n hx hb dX6_next_90 rfl (lv_at hl22 5 rfl) ?_
                  refine lv_icmp_le (tgt := 99) hx hb dX6_next_91 (by decide) (fun c91 => ?_) (fun c91 => ?_)
                  · replace hm := tp hm c91
                    refine lv_iload_n hx hb dX6_next_99 rfl (lv_at hl22 5 rfl) ?_
                    refine lv_istore_n (lv' := [(2, .int z32.1), (3, .int (((10 : Int32) * z20.2.2.1) + z32.2.2.1)), (6, .int y64), (0, .ref (a 99)), (1, .int x1), (4, .int z20.2.2.1), (5, .int z32.2.2.1)]) hx hb dX6_next_100 rfl hl22 (by decide) rfl (fun ls23 hl23 => ?_)
                    clear hl22
                    refine lv_iinc (v := (z32.2.2.1 + (1 : Int32))) (lv' := [(5, .int (z32.2.2.1 + (1 : Int32))), (2, .int z32.1), (3, .int (((10 : Int32) * z20.2.2.1) + z32.2.2.1)), (6, .int y64), (0, .ref (a 99)), (1, .int x1), (4, .int z20.2.2.1)]) hx hb dX6_next_101 hl23 (k := 6) rfl rfl (by decide) rfl (fun ls24 hl24 => ?_)
                    clear hl23
                    refine lv_goto (tgt := 32) hx hb dX6_next_104 (by decide) ?_
                    cases hm
                    exact ih32 (z32.1, (((10 : Int32) * z20.2.2.1) + z32.2.2.1), (z32.2.2.1 + (1 : Int32)), y57) ρ32 hz32 hK32 _ _ hP15 hD15 hS15 _ (lv_sub hl24 [4, 5, 6, 1, 2, 0] rfl)
                  · replace hm := tn hm c91
                    refine lv_iload hx hb dX6_next_94 (lv_at hl22 1 rfl) ?_
                    refine lv_goto (tgt := 100) hx hb dX6_next_96 (by decide) ?_
                    refine lv_istore_n (lv' := [(2, .int y64), (3, .int (((10 : Int32) * z20.2.2.1) + z32.2.2.1)), (6, .int y64), (0, .ref (a 99)), (1, .int x1), (4, .int z20.2.2.1), (5, .int z32.2.2.1)]) hx hb dX6_next_100 rfl hl22 (by decide) rfl (fun ls25 hl25 => ?_)
                    clear hl22
                    refine lv_iinc (v := (z32.2.2.1 + (1 : Int32))) (lv' := [(5, .int (z32.2.2.1 + (1 : Int32))), (2, .int y64), (3, .int (((10 : Int32) * z20.2.2.1) + z32.2.2.1)), (6, .int y64), (0, .ref (a 99)), (1, .int x1), (4, .int z20.2.2.1)]) hx hb dX6_next_101 hl25 (k := 6) rfl rfl (by decide) rfl (fun ls26 hl26 => ?_)
                    clear hl25
                    refine lv_goto (tgt := 32) hx hb dX6_next_104 (by decide) ?_
                    cases hm
                    exact ih32 (y64, (((10 : Int32) * z20.2.2.1) + z32.2.2.1), (z32.2.2.1 + (1 : Int32)), y57) ρ32 hz32 hK32 _ _ hP15 hD15 hS15 _ (lv_sub hl26 [4, 5, 6, 1, 2, 0] rfl)
          exact hL32 n32 (z20.1, z20.2.1, (0 : Int32), z20.2.2.2) r32 hn32 hm _ _ hP5 hD5 hS5 _ (lv_sub hl8 [1, 2, 5, 3, 4, 0] rfl)
    exact hL20 n20 ((-1 : Int32), (-4 : Int32), (0 : Int32), v) r20 hn20 hm _ _ hP0 hD0 hS0 _ (lv_sub hl3 [3, 4, 2, 1, 0] rfl)
  · replace hm := tp hm c7
    refine lv_iconst (v := (-1 : Int32)) hx hb dX6_next_10 (by decide) ?_
    exact eWi (Wf := fun (uu : SV) => wX6 q a uu) (u := v) X hr hlocks hP0 hD0 hS0 hm dX6_next_11
noncomputable def m_X6_lowest_K17 (x1 : Int64) (x2 : Int64) (x3 : Int32) (z17 : Int64 × Int64) : Option (Int64) :=
  (if x3 = 0 then ck (dvL z17.1) (some (x1 / z17.1)) else ck (dvL z17.1) (some (x2 / z17.1)))
noncomputable def m_X6_lowest_L17 (z17 : Int64 × Int64) : Option ((Int64 × Int64) ⊕ (Int64 × Int64)) :=
  (if (lg_cmp z17.2 (0 : Int64)) = 0 then some (.inr (z17.1, z17.2)) else ck (dvL z17.2) (some (.inl (z17.2, (z17.1 - z17.1 / z17.2 * z17.2)))))
noncomputable def m_X6_lowest_J12 (x1 : Int64) (x2 : Int64) (x3 : Int32) (z12 : Int64) : Option (Int64) :=
  (lpC (m_X6_lowest_L17) (z12, x2)).bind (m_X6_lowest_K17 x1 x2 x3)
noncomputable def m_X6_lowest (x1 : Int64) (x2 : Int64) (x3 : Int32) : Option (Int64) :=
  (if 0 ≤ (lg_cmp x1 (0 : Int64)) then m_X6_lowest_J12 x1 x2 x3 x1 else m_X6_lowest_J12 x1 x2 x3 (-x1))
set_option maxHeartbeats 4000000 in
set_option maxRecDepth 100000 in
theorem c_X6_lowest (l : Launch) (D : va_G) (q : Nat → ClassId) (x1 : Int64) (x2 : Int64) (x3 : Int32) (res : Int64) (hm : m_X6_lowest x1 x2 x3 = some res) : Met l yX6_lowest (mw yX6_lowest cX6_lowest 11 (some .long)) ({ frames := 0, cells := 0, slots := 0, locals := 0 } : Room) (pcR D q ([]) [.long x1, .long x2, .int x3]) (vp_Sl (fun x => x = res)) 0 0 (fun _ => False) := by
  refine Met.ofW (cc := cX6_lowest) (maxL := 11) (ret := (some .long)) (by decide) rfl ?_
  intro p e s m args below meth c s₁ B hml hv
  obtain ⟨rfl, hP0, hK⟩ := hv
  have hx := B.exec
  have hb := B.bytes
  have hr := B.returns
  have hW := mw_ws (atoms_spec (ws := mw yX6_lowest cX6_lowest 11 (some .long)) B.pre)
  have hown : s.vm.findClass RX6 = some m.cls := findClass_of_methodNamed B.named
  have hlocks := B.notSynchronized
  have X : Cx p s m [.long x1, .long x2, .int x3].toArray c cX6_lowest 11 RX6 D q := ⟨hx, hb, hml, hown, hW, hK⟩
  have hl0 := lv_entry ([.long x1, .long x2, .int x3]) (n := 11) (Nat.le_of_ble_eq_true rfl)
  rw [lg_entry_eq]
  generalize (lg_sl ([.long x1, .long x2, .int x3]) ++ List.replicate (11 - (lg_sl ([.long x1, .long x2, .int x3])).length) Slot.unset).toArray = ls0 at hl0 ⊢
  have hl0 : lv_has ls0 11 [(0, .long x1), (2, .long x2), (4, .int x3)] := hl0
  unfold m_X6_lowest at hm
  refine lv_lload_n hx hb dX6_lowest_0 rfl (lv_at hl0 0 rfl) ?_
  refine lv_lconst (v := (0 : Int64)) hx hb dX6_lowest_1 (by decide) ?_
  refine W.lcmp hx hb dX6_lowest_2 ?_
  have hJ12 : ∀ z12 : Int64, m_X6_lowest_J12 x1 x2 x3 z12 = some res → ∀ ls : Array Slot, lv_has ls 11 [(0, .long x1), (2, .long x2), (4, .int x3)] → W p l e ((headSpec (mw yX6_lowest cX6_lowest 11 (some .long)) ({ frames := 0, cells := 0, slots := 0, locals := 0 } : Room)).room) s m [.long x1, .long x2, .int x3].toArray below meth c s.heap [] 0 0 (MQ below (vp_Sl (fun x => x = res)) [.long x1, .long x2, .int x3].toArray s 0 0 (fun _ => False)) (F0 m 12 ls [.long z12]) := by
    intro z12 hm ls1 hl1
    unfold m_X6_lowest_J12 at hm
    refine lv_lstore (lv' := [(5, .long z12), (0, .long x1), (2, .long x2), (4, .int x3)]) hx hb dX6_lowest_12 hl1 (by decide) rfl (fun ls2 hl2 => ?_)
    clear hl1
    refine lv_lload_n hx hb dX6_lowest_14 rfl (lv_at hl2 2 rfl) ?_
    refine lv_lstore (lv' := [(7, .long x2), (5, .long z12), (0, .long x1), (2, .long x2), (4, .int x3)]) hx hb dX6_lowest_15 hl2 (by decide) rfl (fun ls3 hl3 => ?_)
    clear hl2
    obtain ⟨r17, hr17, hm⟩ := bn hm
    obtain ⟨n17, hn17⟩ := lpC_ex hr17
    have hE17 : ∀ z17 : Int64 × Int64, m_X6_lowest_K17 x1 x2 x3 z17 = some res → ∀ ls : Array Slot, lv_has ls 11 [(0, .long x1), (2, .long x2), (4, .int x3), (5, .long z17.1)] → W p l e ((headSpec (mw yX6_lowest cX6_lowest 11 (some .long)) ({ frames := 0, cells := 0, slots := 0, locals := 0 } : Room)).room) s m [.long x1, .long x2, .int x3].toArray below meth c s.heap [] 0 0 (MQ below (vp_Sl (fun x => x = res)) [.long x1, .long x2, .int x3].toArray s 0 0 (fun _ => False)) (F0 m 42 ls []) := by
      intro z17 hm ls5 hl5
      unfold m_X6_lowest_K17 at hm
      refine lv_iload hx hb dX6_lowest_42 (lv_at hl5 2 rfl) ?_
      refine lv_if_ne (tgt := 51) hx hb dX6_lowest_44 (by decide) (fun c44 => ?_) (fun c44 => ?_)
      · replace hm := tn hm c44
        refine lv_lload_n hx hb dX6_lowest_51 rfl (lv_at hl5 1 rfl) ?_
        refine lv_lload hx hb dX6_lowest_52 (lv_at hl5 3 rfl) ?_
        obtain ⟨h7, hm⟩ := ckd hm
        refine lv_ldiv hx hb dX6_lowest_54 (dvl_ne h7) ?_
        exact eRl  X hr hlocks hm dX6_lowest_55
      · replace hm := tp hm c44
        refine lv_lload_n hx hb dX6_lowest_47 rfl (lv_at hl5 0 rfl) ?_
        refine lv_goto (tgt := 52) hx hb dX6_lowest_48 (by decide) ?_
        refine lv_lload hx hb dX6_lowest_52 (lv_at hl5 3 rfl) ?_
        obtain ⟨h6, hm⟩ := ckd hm
        refine lv_ldiv hx hb dX6_lowest_54 (dvl_ne h6) ?_
        exact eRl  X hr hlocks hm dX6_lowest_55
    have hL17 : ∀ (n : Nat) (z17 : Int64 × Int64) (ρ17 : Int64 × Int64), lpO (m_X6_lowest_L17) n z17 = some ρ17 → (m_X6_lowest_K17 x1 x2 x3) ρ17 = some res → ∀ ls : Array Slot, lv_has ls 11 [(0, .long x1), (2, .long x2), (4, .int x3), (5, .long z17.1), (7, .long z17.2)] → W p l e ((headSpec (mw yX6_lowest cX6_lowest 11 (some .long)) ({ frames := 0, cells := 0, slots := 0, locals := 0 } : Room)).room) s m [.long x1, .long x2, .int x3].toArray below meth c s.heap [] 0 0 (MQ below (vp_Sl (fun x => x = res)) [.long x1, .long x2, .int x3].toArray s 0 0 (fun _ => False)) (F0 m 17 ls []) := by
      intro n
      induction n with
      | zero => intro _ _ h; cases h
      | succ n ih17 =>
        intro z17 ρ17 hz17 hK17 ls4 hl4
        obtain ⟨t17, hm, hz17⟩ := bn hz17
        unfold m_X6_lowest_L17 at hm
        refine lv_lload hx hb dX6_lowest_17 (lv_at hl4 4 rfl) ?_
        refine lv_lconst (v := (0 : Int64)) hx hb dX6_lowest_19 (by decide) ?_
        refine W.lcmp hx hb dX6_lowest_20 ?_
        refine lv_if_eq (tgt := 42) hx hb dX6_lowest_21 (by decide) (fun c21 => ?_) (fun c21 => ?_)
        · replace hm := tp hm c21
          cases hm
          cases hz17
          exact hE17 (z17.1, z17.2) hK17 _ (lv_sub hl4 [0, 1, 2, 3] rfl)
        · replace hm := tn hm c21
          refine lv_lload hx hb dX6_lowest_24 (lv_at hl4 3 rfl) ?_
          refine lv_lload hx hb dX6_lowest_26 (lv_at hl4 4 rfl) ?_
          obtain ⟨h8, hm⟩ := ckd hm
          refine lv_lrem hx hb dX6_lowest_28 (dvl_ne h8) ?_
          refine lv_lstore (lv' := [(9, .long (z17.1 - z17.1 / z17.2 * z17.2)), (0, .long x1), (2, .long x2), (4, .int x3), (5, .long z17.1), (7, .long z17.2)]) hx hb dX6_lowest_29 hl4 (by decide) rfl (fun ls9 hl9 => ?_)
          clear hl4
          refine lv_lload hx hb dX6_lowest_31 (lv_at hl9 5 rfl) ?_
          refine lv_lstore (lv' := [(5, .long z17.2), (9, .long (z17.1 - z17.1 / z17.2 * z17.2)), (0, .long x1), (2, .long x2), (4, .int x3), (7, .long z17.2)]) hx hb dX6_lowest_33 hl9 (by decide) rfl (fun ls10 hl10 => ?_)
          clear hl9
          refine lv_lload hx hb dX6_lowest_35 (lv_at hl10 1 rfl) ?_
          refine lv_lstore (lv' := [(7, .long (z17.1 - z17.1 / z17.2 * z17.2)), (5, .long z17.2), (9, .long (z17.1 - z17.1 / z17.2 * z17.2)), (0, .long x1), (2, .long x2), (4, .int x3)]) hx hb dX6_lowest_37 hl10 (by decide) rfl (fun ls11 hl11 => ?_)
          clear hl10
          refine lv_goto (tgt := 17) hx hb dX6_lowest_39 (by decide) ?_
          cases hm
          exact ih17 (z17.2, (z17.1 - z17.1 / z17.2 * z17.2)) ρ17 hz17 hK17 _ (lv_sub hl11 [3, 4, 5, 1, 0] rfl)
    exact hL17 n17 (z12, x2) r17 hn17 hm _ (lv_sub hl3 [2, 3, 4, 1, 0] rfl)
  refine lv_if_ge (tgt := 11) hx hb dX6_lowest_3 (by decide) (fun c3 => ?_) (fun c3 => ?_)
  · replace hm := tp hm c3
    refine lv_lload_n hx hb dX6_lowest_11 rfl (lv_at hl0 0 rfl) ?_
    exact hJ12 x1 hm _ (lv_sub hl0 [0, 1, 2] rfl)
  · replace hm := tn hm c3
    refine lv_lload_n hx hb dX6_lowest_6 rfl (lv_at hl0 0 rfl) ?_
    refine lv_lneg hx hb dX6_lowest_7 ?_
    refine lv_goto (tgt := 12) hx hb dX6_lowest_8 (by decide) ?_
    exact hJ12 (-x1) hm _ (lv_sub hl0 [0, 1, 2] rfl)
noncomputable def m_X6_bitsOf_K4 (z4 : Int32 × Int32) : Option (Int32) :=
  some z4.1
noncomputable def m_X6_bitsOf_L4 (x1 : Int32) (z4 : Int32 × Int32) : Option ((Int32 × Int32) ⊕ (Int32 × Int32)) :=
  (if (6 : Int32) ≤ z4.2 then some (.inr (z4.1, z4.2)) else some (.inl ((z4.1 + ((x1 >>> (z4.2 &&& 31)) &&& (1 : Int32))), (z4.2 + (1 : Int32)))))
noncomputable def m_X6_bitsOf (x1 : Int32) : Option (Int32) :=
  (lpC (m_X6_bitsOf_L4 x1) ((0 : Int32), (0 : Int32))).bind (m_X6_bitsOf_K4)
set_option maxHeartbeats 4000000 in
set_option maxRecDepth 100000 in
theorem c_X6_bitsOf (l : Launch) (D : va_G) (q : Nat → ClassId) (x1 : Int32) (res : Int32) (hm : m_X6_bitsOf x1 = some res) : Met l yX6_bitsOf (mw yX6_bitsOf cX6_bitsOf 3 (some .int)) ({ frames := 0, cells := 0, slots := 0, locals := 0 } : Room) (pcR D q ([]) [.int x1]) (vp_Si (fun x => x = res)) 0 0 (fun _ => False) := by
  refine Met.ofW (cc := cX6_bitsOf) (maxL := 3) (ret := (some .int)) (by decide) rfl ?_
  intro p e s m args below meth c s₁ B hml hv
  obtain ⟨rfl, hP0, hK⟩ := hv
  have hx := B.exec
  have hb := B.bytes
  have hr := B.returns
  have hW := mw_ws (atoms_spec (ws := mw yX6_bitsOf cX6_bitsOf 3 (some .int)) B.pre)
  have hown : s.vm.findClass RX6 = some m.cls := findClass_of_methodNamed B.named
  have hlocks := B.notSynchronized
  have X : Cx p s m [.int x1].toArray c cX6_bitsOf 3 RX6 D q := ⟨hx, hb, hml, hown, hW, hK⟩
  have hl0 := lv_entry ([.int x1]) (n := 3) (Nat.le_of_ble_eq_true rfl)
  rw [lg_entry_eq]
  generalize (lg_sl ([.int x1]) ++ List.replicate (3 - (lg_sl ([.int x1])).length) Slot.unset).toArray = ls0 at hl0 ⊢
  have hl0 : lv_has ls0 3 [(0, .int x1)] := hl0
  unfold m_X6_bitsOf at hm
  refine lv_iconst (v := (0 : Int32)) hx hb dX6_bitsOf_0 (by decide) ?_
  refine lv_istore_n (lv' := [(1, .int (0 : Int32)), (0, .int x1)]) hx hb dX6_bitsOf_1 rfl hl0 (by decide) rfl (fun ls1 hl1 => ?_)
  clear hl0
  refine lv_iconst (v := (0 : Int32)) hx hb dX6_bitsOf_2 (by decide) ?_
  refine lv_istore_n (lv' := [(2, .int (0 : Int32)), (1, .int (0 : Int32)), (0, .int x1)]) hx hb dX6_bitsOf_3 rfl hl1 (by decide) rfl (fun ls2 hl2 => ?_)
  clear hl1
  obtain ⟨r4, hr4, hm⟩ := bn hm
  obtain ⟨n4, hn4⟩ := lpC_ex hr4
  have hE4 : ∀ z4 : Int32 × Int32, m_X6_bitsOf_K4 z4 = some res → ∀ ls : Array Slot, lv_has ls 3 [(1, .int z4.1)] → W p l e ((headSpec (mw yX6_bitsOf cX6_bitsOf 3 (some .int)) ({ frames := 0, cells := 0, slots := 0, locals := 0 } : Room)).room) s m [.int x1].toArray below meth c s.heap [] 0 0 (MQ below (vp_Si (fun x => x = res)) [.int x1].toArray s 0 0 (fun _ => False)) (F0 m 24 ls []) := by
    intro z4 hm ls4 hl4
    unfold m_X6_bitsOf_K4 at hm
    refine lv_iload_n hx hb dX6_bitsOf_24 rfl (lv_at hl4 0 rfl) ?_
    exact eRi  X hr hlocks hm dX6_bitsOf_25
  have hL4 : ∀ (n : Nat) (z4 : Int32 × Int32) (ρ4 : Int32 × Int32), lpO (m_X6_bitsOf_L4 x1) n z4 = some ρ4 → (m_X6_bitsOf_K4) ρ4 = some res → ∀ ls : Array Slot, lv_has ls 3 [(0, .int x1), (1, .int z4.1), (2, .int z4.2)] → W p l e ((headSpec (mw yX6_bitsOf cX6_bitsOf 3 (some .int)) ({ frames := 0, cells := 0, slots := 0, locals := 0 } : Room)).room) s m [.int x1].toArray below meth c s.heap [] 0 0 (MQ below (vp_Si (fun x => x = res)) [.int x1].toArray s 0 0 (fun _ => False)) (F0 m 4 ls []) := by
    intro n
    induction n with
    | zero => intro _ _ h; cases h
    | succ n ih4 =>
      intro z4 ρ4 hz4 hK4 ls3 hl3
      obtain ⟨t4, hm, hz4⟩ := bn hz4
      unfold m_X6_bitsOf_L4 at hm
      refine lv_iload_n hx hb dX6_bitsOf_4 rfl (lv_at hl3 2 rfl) ?_
      refine lv_bipush (v := (6 : Int32)) hx hb dX6_bitsOf_5 (by decide) ?_
      refine lv_icmp_ge (tgt := 24) hx hb dX6_bitsOf_7 (by decide) (fun c7 => ?_) (fun c7 => ?_)
      · replace hm := tp hm c7
        cases hm
        cases hz4
        exact hE4 (z4.1, z4.2) hK4 _ (lv_sub hl3 [1] rfl)
      · replace hm := tn hm c7
        refine lv_iload_n hx hb dX6_bitsOf_10 rfl (lv_at hl3 1 rfl) ?_
        refine lv_iload_n hx hb dX6_bitsOf_11 rfl (lv_at hl3 0 rfl) ?_
        refine lv_iload_n hx hb dX6_bitsOf_12 rfl (lv_at hl3 2 rfl) ?_
        refine lv_ishr hx hb dX6_bitsOf_13 ?_
        refine lv_iconst (v := (1 : Int32)) hx hb dX6_bitsOf_14 (by decide) ?_
        refine lv_iand hx hb dX6_bitsOf_15 ?_
        refine lv_iadd hx hb dX6_bitsOf_16 ?_
        refine lv_istore_n (lv' := [(1, .int (z4.1 + ((x1 >>> (z4.2 &&& 31)) &&& (1 : Int32)))), (0, .int x1), (2, .int z4.2)]) hx hb dX6_bitsOf_17 rfl hl3 (by decide) rfl (fun ls5 hl5 => ?_)
        clear hl3
        refine lv_iinc (v := (z4.2 + (1 : Int32))) (lv' := [(2, .int (z4.2 + (1 : Int32))), (1, .int (z4.1 + ((x1 >>> (z4.2 &&& 31)) &&& (1 : Int32)))), (0, .int x1)]) hx hb dX6_bitsOf_18 hl5 (k := 2) rfl rfl (by decide) rfl (fun ls6 hl6 => ?_)
        clear hl5
        refine lv_goto (tgt := 4) hx hb dX6_bitsOf_21 (by decide) ?_
        cases hm
        exact ih4 ((z4.1 + ((x1 >>> (z4.2 &&& 31)) &&& (1 : Int32))), (z4.2 + (1 : Int32))) ρ4 hz4 hK4 _ (lv_sub hl6 [2, 1, 0] rfl)
  exact hL4 n4 ((0 : Int32), (0 : Int32)) r4 hn4 hm _ (lv_sub hl2 [2, 1, 0] rfl)
noncomputable def m_X6_valueOn_K62 (z62 : Int32 × Int32) : Option (Int32) :=
  some z62.1
noncomputable def m_X6_valueOn_L62 (v : SV) (x1 : Int32) (x2 : Int32) (z62 : Int32 × Int32) : Option ((Int32 × Int32) ⊕ (Int32 × Int32)) :=
  (if (v 0 4) ≤ z62.2 then some (.inr (z62.1, z62.2)) else ck (inB ((2 : Int32) * z62.2) 10) (ck (inB (((2 : Int32) * z62.2) + (1 : Int32)) 10) ((m_X6_isLikeOn v x1 z62.2).bind (fun y99 => (if y99 = 0 then some (.inl (z62.1, (z62.2 + (1 : Int32)))) else (m_X6_topOn v x1 (v 3 ((((2 : Int32) * z62.2)).toNatClampNeg))).bind (fun y110 => (if ((x2 >>> (y110 &&& 31)) &&& (1 : Int32)) = (1 : Int32) then (m_X6_topOn v x1 (v 3 (((((2 : Int32) * z62.2) + (1 : Int32))).toNatClampNeg))).bind (fun y125 => (if ((x2 >>> (y125 &&& 31)) &&& (1 : Int32)) = (1 : Int32) then (m_X6_worthOf v (v 3 ((((2 : Int32) * z62.2)).toNatClampNeg))).bind (fun y139 => (m_X6_worthOf v (v 3 (((((2 : Int32) * z62.2) + (1 : Int32))).toNatClampNeg))).bind (fun y145 => (if y145 ≤ y139 then (m_X6_worthOf v (v 3 (((((2 : Int32) * z62.2) + (1 : Int32))).toNatClampNeg))).bind (fun y163 => some (.inl ((z62.1 + y163), (z62.2 + (1 : Int32))))) else (m_X6_worthOf v (v 3 ((((2 : Int32) * z62.2)).toNatClampNeg))).bind (fun y154 => some (.inl ((z62.1 + y154), (z62.2 + (1 : Int32)))))))) else some (.inl (z62.1, (z62.2 + (1 : Int32)))))) else some (.inl (z62.1, (z62.2 + (1 : Int32)))))))))))
noncomputable def m_X6_valueOn_K5 (v : SV) (x1 : Int32) (x2 : Int32) (z5 : Int32 × Int32) : Option (Int32) :=
  (lpC (m_X6_valueOn_L62 v x1 x2) (z5.1, (0 : Int32))).bind (m_X6_valueOn_K62)
noncomputable def m_X6_valueOn_L5 (v : SV) (x1 : Int32) (x2 : Int32) (z5 : Int32 × Int32) : Option ((Int32 × Int32) ⊕ (Int32 × Int32)) :=
  (if (v 0 1) ≤ z5.2 then some (.inr (z5.1, z5.2)) else (m_X6_topOn v x1 z5.2).bind (fun y18 => (if y18 = (-4 : Int32) then some (.inl ((z5.1 + (0 : Int32)), (z5.2 + (1 : Int32)))) else (if ((x2 >>> (y18 &&& 31)) &&& (1 : Int32)) = (1 : Int32) then (m_X6_worthOf v z5.2).bind (fun y44 => some (.inl ((z5.1 + y44), (z5.2 + (1 : Int32))))) else some (.inl ((z5.1 + (0 : Int32)), (z5.2 + (1 : Int32))))))))
noncomputable def m_X6_valueOn (v : SV) (x1 : Int32) (x2 : Int32) : Option (Int32) :=
  (lpC (m_X6_valueOn_L5 v x1 x2) ((0 : Int32), (0 : Int32))).bind (m_X6_valueOn_K5 v x1 x2)
set_option maxHeartbeats 4000000 in
set_option maxRecDepth 100000 in
theorem c_X6_valueOn (l : Launch) (D : va_G) (q : Nat → ClassId) (a : Nat → Nat) (v : SV) (x1 : Int32) (x2 : Int32) (res : Int32) (hm : m_X6_valueOn v x1 x2 = some res) : Met l yX6_valueOn (mw yX6_valueOn cX6_valueOn 7 (some .int)) ({ frames := 4, cells := 0, slots := 0, locals := 96 } : Room) (pcR D q (wX6 q a v) [.ref (a 99), .int x1, .int x2]) (vp_Si (fun x => x = res)) 0 0 (fun _ => False) := by
  refine Met.ofW (cc := cX6_valueOn) (maxL := 7) (ret := (some .int)) (by decide) rfl ?_
  intro p e s m args below meth c s₁ B hml hv
  obtain ⟨rfl, hP0, hK⟩ := hv
  have hx := B.exec
  have hb := B.bytes
  have hr := B.returns
  have hW := mw_ws (atoms_spec (ws := mw yX6_valueOn cX6_valueOn 7 (some .int)) B.pre)
  have hown : s.vm.findClass RX6 = some m.cls := findClass_of_methodNamed B.named
  have hlocks := B.notSynchronized
  have X : Cx p s m [.ref (a 99), .int x1, .int x2].toArray c cX6_valueOn 7 RX6 D q := ⟨hx, hb, hml, hown, hW, hK⟩
  have hl0 := lv_entry ([.ref (a 99), .int x1, .int x2]) (n := 7) (Nat.le_of_ble_eq_true rfl)
  rw [lg_entry_eq]
  generalize (lg_sl ([.ref (a 99), .int x1, .int x2]) ++ List.replicate (7 - (lg_sl ([.ref (a 99), .int x1, .int x2])).length) Slot.unset).toArray = ls0 at hl0 ⊢
  have hl0 : lv_has ls0 7 [(0, .ref (a 99)), (1, .int x1), (2, .int x2)] := hl0
  unfold m_X6_valueOn at hm
  refine lv_iconst (v := (0 : Int32)) hx hb dX6_valueOn_0 (by decide) ?_
  refine lv_istore_n (lv' := [(3, .int (0 : Int32)), (0, .ref (a 99)), (1, .int x1), (2, .int x2)]) hx hb dX6_valueOn_1 rfl hl0 (by decide) rfl (fun ls1 hl1 => ?_)
  clear hl0
  refine lv_iconst (v := (0 : Int32)) hx hb dX6_valueOn_2 (by decide) ?_
  refine lv_istore (lv' := [(4, .int (0 : Int32)), (3, .int (0 : Int32)), (0, .ref (a 99)), (1, .int x1), (2, .int x2)]) hx hb dX6_valueOn_3 hl1 (by decide) rfl (fun ls2 hl2 => ?_)
  clear hl1
  obtain ⟨r5, hr5, hm⟩ := bn hm
  obtain ⟨n5, hn5⟩ := lpC_ex hr5
  have hE5 : ∀ z5 : Int32 × Int32, m_X6_valueOn_K5 v x1 x2 z5 = some res → ∀ ls : Array Slot, lv_has ls 7 [(0, .ref (a 99)), (1, .int x1), (2, .int x2), (3, .int z5.1)] → W p l e ((headSpec (mw yX6_valueOn cX6_valueOn 7 (some .int)) ({ frames := 4, cells := 0, slots := 0, locals := 96 } : Room)).room) s m [.ref (a 99), .int x1, .int x2].toArray below meth c s.heap [] 0 0 (MQ below (vp_Si (fun x => x = res)) [.ref (a 99), .int x1, .int x2].toArray s 0 0 (fun _ => False)) (F0 m 59 ls []) := by
    intro z5 hm ls4 hl4
    unfold m_X6_valueOn_K5 at hm
    refine lv_iconst (v := (0 : Int32)) hx hb dX6_valueOn_59 (by decide) ?_
    refine lv_istore (lv' := [(4, .int (0 : Int32)), (0, .ref (a 99)), (1, .int x1), (2, .int x2), (3, .int z5.1)]) hx hb dX6_valueOn_60 hl4 (by decide) rfl (fun ls5 hl5 => ?_)
    clear hl4
    obtain ⟨r62, hr62, hm⟩ := bn hm
    obtain ⟨n62, hn62⟩ := lpC_ex hr62
    have hE62 : ∀ z62 : Int32 × Int32, m_X6_valueOn_K62 z62 = some res → ∀ ls : Array Slot, lv_has ls 7 [(3, .int z62.1)] → W p l e ((headSpec (mw yX6_valueOn cX6_valueOn 7 (some .int)) ({ frames := 4, cells := 0, slots := 0, locals := 96 } : Room)).room) s m [.ref (a 99), .int x1, .int x2].toArray below meth c s.heap [] 0 0 (MQ below (vp_Si (fun x => x = res)) [.ref (a 99), .int x1, .int x2].toArray s 0 0 (fun _ => False)) (F0 m 174 ls []) := by
      intro z62 hm ls7 hl7
      unfold m_X6_valueOn_K62 at hm
      refine lv_iload_n hx hb dX6_valueOn_174 rfl (lv_at hl7 0 rfl) ?_
      exact eRi  X hr hlocks hm dX6_valueOn_175
    have hL62 : ∀ (n : Nat) (z62 : Int32 × Int32) (ρ62 : Int32 × Int32), lpO (m_X6_valueOn_L62 v x1 x2) n z62 = some ρ62 → (m_X6_valueOn_K62) ρ62 = some res → ∀ ls : Array Slot, lv_has ls 7 [(0, .ref (a 99)), (1, .int x1), (2, .int x2), (3, .int z62.1), (4, .int z62.2)] → W p l e ((headSpec (mw yX6_valueOn cX6_valueOn 7 (some .int)) ({ frames := 4, cells := 0, slots := 0, locals := 96 } : Room)).room) s m [.ref (a 99), .int x1, .int x2].toArray below meth c s.heap [] 0 0 (MQ below (vp_Si (fun x => x = res)) [.ref (a 99), .int x1, .int x2].toArray s 0 0 (fun _ => False)) (F0 m 62 ls []) := by
      intro n
      induction n with
      | zero => intro _ _ h; cases h
      | succ n ih62 =>
        intro z62 ρ62 hz62 hK62 ls6 hl6
        obtain ⟨t62, hm, hz62⟩ := bn hz62
        unfold m_X6_valueOn_L62 at hm
        refine lv_iload hx hb dX6_valueOn_62 (lv_at hl6 4 rfl) ?_
        refine lv_aload_n hx hb dX6_valueOn_64 rfl (lv_at hl6 0 rfl) ?_
        refine va_get (D := D) (ci := 6) (v := .int (v 0 4)) (C := RX6) (T := TX6) (N := 40) hx hb hW iX6 hown hK hP0 0 rfl rfl 4 (by decide) (hW _ k_871) (fun _ h => h) rfl dX6_valueOn_65 ?_
        refine lv_icmp_ge (tgt := 174) hx hb dX6_valueOn_68 (by decide) (fun c68 => ?_) (fun c68 => ?_)
        · replace hm := tp hm c68
          cases hm
          cases hz62
          exact hE62 (z62.1, z62.2) hK62 _ (lv_sub hl6 [3] rfl)
        · replace hm := tn hm c68
          refine lv_aload_n hx hb dX6_valueOn_71 rfl (lv_at hl6 0 rfl) ?_
          refine va_get (D := D) (ci := 6) (v := .ref (a 3)) (C := RX6) (T := TX6) (N := 40) hx hb hW iX6 hown hK hP0 0 rfl rfl 3 (by decide) (hW _ k_870) (fun _ h => h) rfl dX6_valueOn_72 ?_
          refine lv_iconst (v := (2 : Int32)) hx hb dX6_valueOn_75 (by decide) ?_
          refine lv_iload hx hb dX6_valueOn_76 (lv_at hl6 4 rfl) ?_
          refine lv_imul hx hb dX6_valueOn_78 ?_
          obtain ⟨h8, hm⟩ := ckd hm
          refine va_iald (f := (v 3)) hx hb hK hP0 2 0 rfl rfl (inB_vp h8) dX6_valueOn_79 ?_
          refine lv_istore (lv' := [(5, .int (v 3 ((((2 : Int32) * z62.2)).toNatClampNeg))), (0, .ref (a 99)), (1, .int x1), (2, .int x2), (3, .int z62.1), (4, .int z62.2)]) hx hb dX6_valueOn_80 hl6 (by decide) rfl (fun ls9 hl9 => ?_)
          clear hl6
          refine lv_aload_n hx hb dX6_valueOn_82 rfl (lv_at hl9 1 rfl) ?_
          refine va_get (D := D) (ci := 6) (v := .ref (a 3)) (C := RX6) (T := TX6) (N := 40) hx hb hW iX6 hown hK hP0 0 rfl rfl 3 (by decide) (hW _ k_870) (fun _ h => h) rfl dX6_valueOn_83 ?_
          refine lv_iconst (v := (2 : Int32)) hx hb dX6_valueOn_86 (by decide) ?_
          refine lv_iload hx hb dX6_valueOn_87 (lv_at hl9 5 rfl) ?_
          refine lv_imul hx hb dX6_valueOn_89 ?_
          refine lv_iconst (v := (1 : Int32)) hx hb dX6_valueOn_90 (by decide) ?_
          refine lv_iadd hx hb dX6_valueOn_91 ?_
          obtain ⟨h10, hm⟩ := ckd hm
          refine va_iald (f := (v 3)) hx hb hK hP0 2 0 rfl rfl (inB_vp h10) dX6_valueOn_92 ?_
          refine lv_istore (lv' := [(6, .int (v 3 (((((2 : Int32) * z62.2) + (1 : Int32))).toNatClampNeg))), (5, .int (v 3 ((((2 : Int32) * z62.2)).toNatClampNeg))), (0, .ref (a 99)), (1, .int x1), (2, .int x2), (3, .int z62.1), (4, .int z62.2)]) hx hb dX6_valueOn_93 hl9 (by decide) rfl (fun ls11 hl11 => ?_)
          clear hl9
          refine lv_aload_n hx hb dX6_valueOn_95 rfl (lv_at hl11 2 rfl) ?_
          refine lv_iload_n hx hb dX6_valueOn_96 rfl (lv_at hl11 3 rfl) ?_
          refine lv_iload hx hb dX6_valueOn_97 (lv_at hl11 6 rfl) ?_
          obtain ⟨y99, hy99, hm⟩ := bn hm
          refine cVRi (As := [.int x1, .int z62.2]) (rest := []) X hP0 hl11.1 (c_X6_isLikeOn l D q a v x1 z62.2 y99 hy99) [0, 1, 2, 3, 4, 5, 6, 7, 8, 9, 10, 11, 12, 13, 14, 15, 16, 17] rfl 0 rfl rfl rfl k_1115 mX6_isLikeOn ⟨rfl, rfl⟩ ⟨Nat.le_of_ble_eq_true rfl, Nat.le_of_ble_eq_true rfl⟩ rfl rfl (Nat.le_of_ble_eq_true rfl) dX6_valueOn_99 ⟨Nat.zero_le _, Nat.zero_le _⟩ ?_
          refine lv_if_eq (tgt := 168) hx hb dX6_valueOn_102 (by decide) (fun c102 => ?_) (fun c102 => ?_)
          · replace hm := tp hm c102
            refine lv_iinc (v := (z62.2 + (1 : Int32))) (lv' := [(4, .int (z62.2 + (1 : Int32))), (6, .int (v 3 (((((2 : Int32) * z62.2) + (1 : Int32))).toNatClampNeg))), (5, .int (v 3 ((((2 : Int32) * z62.2)).toNatClampNeg))), (0, .ref (a 99)), (1, .int x1), (2, .int x2), (3, .int z62.1)]) hx hb dX6_valueOn_168 hl11 (k := 6) rfl rfl (by decide) rfl (fun ls12 hl12 => ?_)
            clear hl11
            refine lv_goto (tgt := 62) hx hb dX6_valueOn_171 (by decide) ?_
            cases hm
            exact ih62 (z62.1, (z62.2 + (1 : Int32))) ρ62 hz62 hK62 _ (lv_sub hl12 [3, 4, 5, 6, 0] rfl)
          · replace hm := tn hm c102
            refine lv_iload_n hx hb dX6_valueOn_105 rfl (lv_at hl11 4 rfl) ?_
            refine lv_aload_n hx hb dX6_valueOn_106 rfl (lv_at hl11 2 rfl) ?_
            refine lv_iload_n hx hb dX6_valueOn_107 rfl (lv_at hl11 3 rfl) ?_
            refine lv_iload hx hb dX6_valueOn_108 (lv_at hl11 1 rfl) ?_
            obtain ⟨y110, hy110, hm⟩ := bn hm
            refine cVRi (As := [.int x1, .int (v 3 ((((2 : Int32) * z62.2)).toNatClampNeg))]) (rest := [.int x2]) X hP0 hl11.1 (c_X6_topOn l D q a v x1 (v 3 ((((2 : Int32) * z62.2)).toNatClampNeg)) y110 hy110) [0, 1, 2, 3, 4, 5, 6, 7, 8, 9, 10, 11, 12, 13, 14, 15, 16, 17] rfl 0 rfl rfl rfl k_1078 mX6_topOn ⟨rfl, rfl⟩ ⟨Nat.le_of_ble_eq_true rfl, Nat.le_of_ble_eq_true rfl⟩ rfl rfl (Nat.le_of_ble_eq_true rfl) dX6_valueOn_110 ⟨Nat.zero_le _, Nat.zero_le _⟩ ?_
            refine lv_ishr hx hb dX6_valueOn_113 ?_
            refine lv_iconst (v := (1 : Int32)) hx hb dX6_valueOn_114 (by decide) ?_
            refine lv_iand hx hb dX6_valueOn_115 ?_
            refine lv_iconst (v := (1 : Int32)) hx hb dX6_valueOn_116 (by decide) ?_
            refine lv_icmp_ne (tgt := 168) hx hb dX6_valueOn_117 (by decide) (fun c117 => ?_) (fun c117 => ?_)
            · replace hm := tn hm c117
              refine lv_iinc (v := (z62.2 + (1 : Int32))) (lv' := [(4, .int (z62.2 + (1 : Int32))), (6, .int (v 3 (((((2 : Int32) * z62.2) + (1 : Int32))).toNatClampNeg))), (5, .int (v 3 ((((2 : Int32) * z62.2)).toNatClampNeg))), (0, .ref (a 99)), (1, .int x1), (2, .int x2), (3, .int z62.1)]) hx hb dX6_valueOn_168 hl11 (k := 6) rfl rfl (by decide) rfl (fun ls18 hl18 => ?_)
              clear hl11
              refine lv_goto (tgt := 62) hx hb dX6_valueOn_171 (by decide) ?_
              cases hm
              exact ih62 (z62.1, (z62.2 + (1 : Int32))) ρ62 hz62 hK62 _ (lv_sub hl18 [3, 4, 5, 6, 0] rfl)
            · replace hm := tp hm c117
              refine lv_iload_n hx hb dX6_valueOn_120 rfl (lv_at hl11 4 rfl) ?_
              refine lv_aload_n hx hb dX6_valueOn_121 rfl (lv_at hl11 2 rfl) ?_
              refine lv_iload_n hx hb dX6_valueOn_122 rfl (lv_at hl11 3 rfl) ?_
              refine lv_iload hx hb dX6_valueOn_123 (lv_at hl11 0 rfl) ?_
              obtain ⟨y125, hy125, hm⟩ := bn hm
              refine cVRi (As := [.int x1, .int (v 3 (((((2 : Int32) * z62.2) + (1 : Int32))).toNatClampNeg))]) (rest := [.int x2]) X hP0 hl11.1 (c_X6_topOn l D q a v x1 (v 3 (((((2 : Int32) * z62.2) + (1 : Int32))).toNatClampNeg)) y125 hy125) [0, 1, 2, 3, 4, 5, 6, 7, 8, 9, 10, 11, 12, 13, 14, 15, 16, 17] rfl 0 rfl rfl rfl k_1078 mX6_topOn ⟨rfl, rfl⟩ ⟨Nat.le_of_ble_eq_true rfl, Nat.le_of_ble_eq_true rfl⟩ rfl rfl (Nat.le_of_ble_eq_true rfl) dX6_valueOn_125 ⟨Nat.zero_le _, Nat.zero_le _⟩ ?_
              refine lv_ishr hx hb dX6_valueOn_128 ?_
              refine lv_iconst (v := (1 : Int32)) hx hb dX6_valueOn_129 (by decide) ?_
              refine lv_iand hx hb dX6_valueOn_130 ?_
              refine lv_iconst (v := (1 : Int32)) hx hb dX6_valueOn_131 (by decide) ?_
              refine lv_icmp_ne (tgt := 168) hx hb dX6_valueOn_132 (by decide) (fun c132 => ?_) (fun c132 => ?_)
              · replace hm := tn hm c132
                refine lv_iinc (v := (z62.2 + (1 : Int32))) (lv' := [(4, .int (z62.2 + (1 : Int32))), (6, .int (v 3 (((((2 : Int32) * z62.2) + (1 : Int32))).toNatClampNeg))), (5, .int (v 3 ((((2 : Int32) * z62.2)).toNatClampNeg))), (0, .ref (a 99)), (1, .int x1), (2, .int x2), (3, .int z62.1)]) hx hb dX6_valueOn_168 hl11 (k := 6) rfl rfl (by decide) rfl (fun ls17 hl17 => ?_)
                clear hl11
                refine lv_goto (tgt := 62) hx hb dX6_valueOn_171 (by decide) ?_
                cases hm
                exact ih62 (z62.1, (z62.2 + (1 : Int32))) ρ62 hz62 hK62 _ (lv_sub hl17 [3, 4, 5, 6, 0] rfl)
              · replace hm := tp hm c132
                refine lv_iload_n hx hb dX6_valueOn_135 rfl (lv_at hl11 5 rfl) ?_
                refine lv_aload_n hx hb dX6_valueOn_136 rfl (lv_at hl11 2 rfl) ?_
                refine lv_iload hx hb dX6_valueOn_137 (lv_at hl11 1 rfl) ?_
                obtain ⟨y139, hy139, hm⟩ := bn hm
                refine cVRi (As := [.int (v 3 ((((2 : Int32) * z62.2)).toNatClampNeg))]) (rest := [.int z62.1]) X hP0 hl11.1 (c_X6_worthOf l D q a v (v 3 ((((2 : Int32) * z62.2)).toNatClampNeg)) y139 hy139) [0, 1, 2, 3, 4, 5, 6, 7, 8, 9, 10, 11, 12, 13, 14, 15, 16, 17] rfl 0 rfl rfl rfl k_1090 mX6_worthOf ⟨rfl, rfl⟩ ⟨Nat.le_of_ble_eq_true rfl, Nat.le_of_ble_eq_true rfl⟩ rfl rfl (Nat.le_of_ble_eq_true rfl) dX6_valueOn_139 ⟨Nat.zero_le _, Nat.zero_le _⟩ ?_
                refine lv_aload_n hx hb dX6_valueOn_142 rfl (lv_at hl11 2 rfl) ?_
                refine lv_iload hx hb dX6_valueOn_143 (lv_at hl11 0 rfl) ?_
                obtain ⟨y145, hy145, hm⟩ := bn hm
                refine cVRi (As := [.int (v 3 (((((2 : Int32) * z62.2) + (1 : Int32))).toNatClampNeg))]) (rest := [.int y139, .int z62.1]) X hP0 hl11.1 (c_X6_worthOf l D q a v (v 3 (((((2 : Int32) * z62.2) + (1 : Int32))).toNatClampNeg)) y145 hy145) [0, 1, 2, 3, 4, 5, 6, 7, 8, 9, 10, 11, 12, 13, 14, 15, 16, 17] rfl 0 rfl rfl rfl k_1090 mX6_worthOf ⟨rfl, rfl⟩ ⟨Nat.le_of_ble_eq_true rfl, Nat.le_of_ble_eq_true rfl⟩ rfl rfl (Nat.le_of_ble_eq_true rfl) dX6_valueOn_145 ⟨Nat.zero_le _, Nat.zero_le _⟩ ?_
                refine lv_icmp_ge (tgt := 160) hx hb dX6_valueOn_148 (by decide) (fun c148 => ?_) (fun c148 => ?_)
                · replace hm := tp hm c148
                  refine lv_aload_n hx hb dX6_valueOn_160 rfl (lv_at hl11 2 rfl) ?_
                  refine lv_iload hx hb dX6_valueOn_161 (lv_at hl11 0 rfl) ?_
                  obtain ⟨y163, hy163, hm⟩ := bn hm
                  refine cVRi (As := [.int (v 3 (((((2 : Int32) * z62.2) + (1 : Int32))).toNatClampNeg))]) (rest := [.int z62.1]) X hP0 hl11.1 (c_X6_worthOf l D q a v (v 3 (((((2 : Int32) * z62.2) + (1 : Int32))).toNatClampNeg)) y163 hy163) [0, 1, 2, 3, 4, 5, 6, 7, 8, 9, 10, 11, 12, 13, 14, 15, 16, 17] rfl 0 rfl rfl rfl k_1090 mX6_worthOf ⟨rfl, rfl⟩ ⟨Nat.le_of_ble_eq_true rfl, Nat.le_of_ble_eq_true rfl⟩ rfl rfl (Nat.le_of_ble_eq_true rfl) dX6_valueOn_163 ⟨Nat.zero_le _, Nat.zero_le _⟩ ?_
                  refine lv_iadd hx hb dX6_valueOn_166 ?_
                  refine lv_istore_n (lv' := [(3, .int (z62.1 + y163)), (6, .int (v 3 (((((2 : Int32) * z62.2) + (1 : Int32))).toNatClampNeg))), (5, .int (v 3 ((((2 : Int32) * z62.2)).toNatClampNeg))), (0, .ref (a 99)), (1, .int x1), (2, .int x2), (4, .int z62.2)]) hx hb dX6_valueOn_167 rfl hl11 (by decide) rfl (fun ls13 hl13 => ?_)
                  clear hl11
                  refine lv_iinc (v := (z62.2 + (1 : Int32))) (lv' := [(4, .int (z62.2 + (1 : Int32))), (3, .int (z62.1 + y163)), (6, .int (v 3 (((((2 : Int32) * z62.2) + (1 : Int32))).toNatClampNeg))), (5, .int (v 3 ((((2 : Int32) * z62.2)).toNatClampNeg))), (0, .ref (a 99)), (1, .int x1), (2, .int x2)]) hx hb dX6_valueOn_168 hl13 (k := 6) rfl rfl (by decide) rfl (fun ls14 hl14 => ?_)
                  clear hl13
                  refine lv_goto (tgt := 62) hx hb dX6_valueOn_171 (by decide) ?_
                  cases hm
                  exact ih62 ((z62.1 + y163), (z62.2 + (1 : Int32))) ρ62 hz62 hK62 _ (lv_sub hl14 [4, 5, 6, 1, 0] rfl)
                · replace hm := tn hm c148
                  refine lv_aload_n hx hb dX6_valueOn_151 rfl (lv_at hl11 2 rfl) ?_
                  refine lv_iload hx hb dX6_valueOn_152 (lv_at hl11 1 rfl) ?_
                  obtain ⟨y154, hy154, hm⟩ := bn hm
                  refine cVRi (As := [.int (v 3 ((((2 : Int32) * z62.2)).toNatClampNeg))]) (rest := [.int z62.1]) X hP0 hl11.1 (c_X6_worthOf l D q a v (v 3 ((((2 : Int32) * z62.2)).toNatClampNeg)) y154 hy154) [0, 1, 2, 3, 4, 5, 6, 7, 8, 9, 10, 11, 12, 13, 14, 15, 16, 17] rfl 0 rfl rfl rfl k_1090 mX6_worthOf ⟨rfl, rfl⟩ ⟨Nat.le_of_ble_eq_true rfl, Nat.le_of_ble_eq_true rfl⟩ rfl rfl (Nat.le_of_ble_eq_true rfl) dX6_valueOn_154 ⟨Nat.zero_le _, Nat.zero_le _⟩ ?_
                  refine lv_goto (tgt := 166) hx hb dX6_valueOn_157 (by decide) ?_
                  refine lv_iadd hx hb dX6_valueOn_166 ?_
                  refine lv_istore_n (lv' := [(3, .int (z62.1 + y154)), (6, .int (v 3 (((((2 : Int32) * z62.2) + (1 : Int32))).toNatClampNeg))), (5, .int (v 3 ((((2 : Int32) * z62.2)).toNatClampNeg))), (0, .ref (a 99)), (1, .int x1), (2, .int x2), (4, .int z62.2)]) hx hb dX6_valueOn_167 rfl hl11 (by decide) rfl (fun ls15 hl15 => ?_)
                  clear hl11
                  refine lv_iinc (v := (z62.2 + (1 : Int32))) (lv' := [(4, .int (z62.2 + (1 : Int32))), (3, .int (z62.1 + y154)), (6, .int (v 3 (((((2 : Int32) * z62.2) + (1 : Int32))).toNatClampNeg))), (5, .int (v 3 ((((2 : Int32) * z62.2)).toNatClampNeg))), (0, .ref (a 99)), (1, .int x1), (2, .int x2)]) hx hb dX6_valueOn_168 hl15 (k := 6) rfl rfl (by decide) rfl (fun ls16 hl16 => ?_)
                  clear hl15
                  refine lv_goto (tgt := 62) hx hb dX6_valueOn_171 (by decide) ?_
                  cases hm
                  exact ih62 ((z62.1 + y154), (z62.2 + (1 : Int32))) ρ62 hz62 hK62 _ (lv_sub hl16 [4, 5, 6, 1, 0] rfl)
    exact hL62 n62 (z5.1, (0 : Int32)) r62 hn62 hm _ (lv_sub hl5 [1, 2, 3, 4, 0] rfl)
  have hL5 : ∀ (n : Nat) (z5 : Int32 × Int32) (ρ5 : Int32 × Int32), lpO (m_X6_valueOn_L5 v x1 x2) n z5 = some ρ5 → (m_X6_valueOn_K5 v x1 x2) ρ5 = some res → ∀ ls : Array Slot, lv_has ls 7 [(0, .ref (a 99)), (1, .int x1), (2, .int x2), (3, .int z5.1), (4, .int z5.2)] → W p l e ((headSpec (mw yX6_valueOn cX6_valueOn 7 (some .int)) ({ frames := 4, cells := 0, slots := 0, locals := 96 } : Room)).room) s m [.ref (a 99), .int x1, .int x2].toArray below meth c s.heap [] 0 0 (MQ below (vp_Si (fun x => x = res)) [.ref (a 99), .int x1, .int x2].toArray s 0 0 (fun _ => False)) (F0 m 5 ls []) := by
    intro n
    induction n with
    | zero => intro _ _ h; cases h
    | succ n ih5 =>
      intro z5 ρ5 hz5 hK5 ls3 hl3
      obtain ⟨t5, hm, hz5⟩ := bn hz5
      unfold m_X6_valueOn_L5 at hm
      refine lv_iload hx hb dX6_valueOn_5 (lv_at hl3 4 rfl) ?_
      refine lv_aload_n hx hb dX6_valueOn_7 rfl (lv_at hl3 0 rfl) ?_
      refine va_get (D := D) (ci := 6) (v := .int (v 0 1)) (C := RX6) (T := TX6) (N := 40) hx hb hW iX6 hown hK hP0 0 rfl rfl 1 (by decide) (hW _ k_868) (fun _ h => h) rfl dX6_valueOn_8 ?_
      refine lv_icmp_ge (tgt := 59) hx hb dX6_valueOn_11 (by decide) (fun c11 => ?_) (fun c11 => ?_)
      · replace hm := tp hm c11
        cases hm
        cases hz5
        exact hE5 (z5.1, z5.2) hK5 _ (lv_sub hl3 [0, 1, 2, 3] rfl)
      · replace hm := tn hm c11
        refine lv_aload_n hx hb dX6_valueOn_14 rfl (lv_at hl3 0 rfl) ?_
        refine lv_iload_n hx hb dX6_valueOn_15 rfl (lv_at hl3 1 rfl) ?_
        refine lv_iload hx hb dX6_valueOn_16 (lv_at hl3 4 rfl) ?_
        obtain ⟨y18, hy18, hm⟩ := bn hm
        refine cVRi (As := [.int x1, .int z5.2]) (rest := []) X hP0 hl3.1 (c_X6_topOn l D q a v x1 z5.2 y18 hy18) [0, 1, 2, 3, 4, 5, 6, 7, 8, 9, 10, 11, 12, 13, 14, 15, 16, 17] rfl 0 rfl rfl rfl k_1078 mX6_topOn ⟨rfl, rfl⟩ ⟨Nat.le_of_ble_eq_true rfl, Nat.le_of_ble_eq_true rfl⟩ rfl rfl (Nat.le_of_ble_eq_true rfl) dX6_valueOn_18 ⟨Nat.zero_le _, Nat.zero_le _⟩ ?_
        refine lv_istore (lv' := [(5, .int y18), (0, .ref (a 99)), (1, .int x1), (2, .int x2), (3, .int z5.1), (4, .int z5.2)]) hx hb dX6_valueOn_21 hl3 (by decide) rfl (fun ls19 hl19 => ?_)
        clear hl3
        refine lv_iload_n hx hb dX6_valueOn_23 rfl (lv_at hl19 4 rfl) ?_
        refine lv_iload hx hb dX6_valueOn_24 (lv_at hl19 0 rfl) ?_
        refine lv_bipush (v := (-4 : Int32)) hx hb dX6_valueOn_26 (by decide) ?_
        refine lv_icmp_eq (tgt := 50) hx hb dX6_valueOn_28 (by decide) (fun c28 => ?_) (fun c28 => ?_)
        · replace hm := tp hm c28
          refine lv_iconst (v := (0 : Int32)) hx hb dX6_valueOn_50 (by decide) ?_
          refine lv_iadd hx hb dX6_valueOn_51 ?_
          refine lv_istore_n (lv' := [(3, .int (z5.1 + (0 : Int32))), (5, .int y18), (0, .ref (a 99)), (1, .int x1), (2, .int x2), (4, .int z5.2)]) hx hb dX6_valueOn_52 rfl hl19 (by decide) rfl (fun ls20 hl20 => ?_)
          clear hl19
          refine lv_iinc (v := (z5.2 + (1 : Int32))) (lv' := [(4, .int (z5.2 + (1 : Int32))), (3, .int (z5.1 + (0 : Int32))), (5, .int y18), (0, .ref (a 99)), (1, .int x1), (2, .int x2)]) hx hb dX6_valueOn_53 hl20 (k := 5) rfl rfl (by decide) rfl (fun ls21 hl21 => ?_)
          clear hl20
          refine lv_goto (tgt := 5) hx hb dX6_valueOn_56 (by decide) ?_
          cases hm
          exact ih5 ((z5.1 + (0 : Int32)), (z5.2 + (1 : Int32))) ρ5 hz5 hK5 _ (lv_sub hl21 [3, 4, 5, 1, 0] rfl)
        · replace hm := tn hm c28
          refine lv_iload_n hx hb dX6_valueOn_31 rfl (lv_at hl19 3 rfl) ?_
          refine lv_iload hx hb dX6_valueOn_32 (lv_at hl19 0 rfl) ?_
          refine lv_ishr hx hb dX6_valueOn_34 ?_
          refine lv_iconst (v := (1 : Int32)) hx hb dX6_valueOn_35 (by decide) ?_
          refine lv_iand hx hb dX6_valueOn_36 ?_
          refine lv_iconst (v := (1 : Int32)) hx hb dX6_valueOn_37 (by decide) ?_
          refine lv_icmp_ne (tgt := 50) hx hb dX6_valueOn_38 (by decide) (fun c38 => ?_) (fun c38 => ?_)
          · replace hm := tn hm c38
            refine lv_iconst (v := (0 : Int32)) hx hb dX6_valueOn_50 (by decide) ?_
            refine lv_iadd hx hb dX6_valueOn_51 ?_
            refine lv_istore_n (lv' := [(3, .int (z5.1 + (0 : Int32))), (5, .int y18), (0, .ref (a 99)), (1, .int x1), (2, .int x2), (4, .int z5.2)]) hx hb dX6_valueOn_52 rfl hl19 (by decide) rfl (fun ls24 hl24 => ?_)
            clear hl19
            refine lv_iinc (v := (z5.2 + (1 : Int32))) (lv' := [(4, .int (z5.2 + (1 : Int32))), (3, .int (z5.1 + (0 : Int32))), (5, .int y18), (0, .ref (a 99)), (1, .int x1), (2, .int x2)]) hx hb dX6_valueOn_53 hl24 (k := 5) rfl rfl (by decide) rfl (fun ls25 hl25 => ?_)
            clear hl24
            refine lv_goto (tgt := 5) hx hb dX6_valueOn_56 (by decide) ?_
            cases hm
            exact ih5 ((z5.1 + (0 : Int32)), (z5.2 + (1 : Int32))) ρ5 hz5 hK5 _ (lv_sub hl25 [3, 4, 5, 1, 0] rfl)
          · replace hm := tp hm c38
            refine lv_aload_n hx hb dX6_valueOn_41 rfl (lv_at hl19 1 rfl) ?_
            refine lv_iload hx hb dX6_valueOn_42 (lv_at hl19 5 rfl) ?_
            obtain ⟨y44, hy44, hm⟩ := bn hm
            refine cVRi (As := [.int z5.2]) (rest := [.int z5.1]) X hP0 hl19.1 (c_X6_worthOf l D q a v z5.2 y44 hy44) [0, 1, 2, 3, 4, 5, 6, 7, 8, 9, 10, 11, 12, 13, 14, 15, 16, 17] rfl 0 rfl rfl rfl k_1090 mX6_worthOf ⟨rfl, rfl⟩ ⟨Nat.le_of_ble_eq_true rfl, Nat.le_of_ble_eq_true rfl⟩ rfl rfl (Nat.le_of_ble_eq_true rfl) dX6_valueOn_44 ⟨Nat.zero_le _, Nat.zero_le _⟩ ?_
            refine lv_goto (tgt := 51) hx hb dX6_valueOn_47 (by decide) ?_
            refine lv_iadd hx hb dX6_valueOn_51 ?_
            refine lv_istore_n (lv' := [(3, .int (z5.1 + y44)), (5, .int y18), (0, .ref (a 99)), (1, .int x1), (2, .int x2), (4, .int z5.2)]) hx hb dX6_valueOn_52 rfl hl19 (by decide) rfl (fun ls22 hl22 => ?_)
            clear hl19
            refine lv_iinc (v := (z5.2 + (1 : Int32))) (lv' := [(4, .int (z5.2 + (1 : Int32))), (3, .int (z5.1 + y44)), (5, .int y18), (0, .ref (a 99)), (1, .int x1), (2, .int x2)]) hx hb dX6_valueOn_53 hl22 (k := 5) rfl rfl (by decide) rfl (fun ls23 hl23 => ?_)
            clear hl22
            refine lv_goto (tgt := 5) hx hb dX6_valueOn_56 (by decide) ?_
            cases hm
            exact ih5 ((z5.1 + y44), (z5.2 + (1 : Int32))) ρ5 hz5 hK5 _ (lv_sub hl23 [3, 4, 5, 1, 0] rfl)
  exact hL5 n5 ((0 : Int32), (0 : Int32)) r5 hn5 hm _ (lv_sub hl2 [2, 3, 4, 1, 0] rfl)
noncomputable def m_X6_value (v : SV) (x1 : Int32) : Option (Int32) :=
  (m_X6_in (x1.toInt64) (0 : Int64) ((((1 : Int32) <<< ((v 0 2) &&& 31)) - (1 : Int32)).toInt64)).bind (fun y12 => (if y12 = 0 then some (-1 : Int32) else (m_X6_valueOn v (0 : Int32) x1).bind (fun y21 => some y21)))
set_option maxHeartbeats 4000000 in
set_option maxRecDepth 100000 in
theorem c_X6_value (l : Launch) (D : va_G) (q : Nat → ClassId) (a : Nat → Nat) (v : SV) (x1 : Int32) (res : Int32) (hm : m_X6_value v x1 = some res) : Met l yX6_value (mw yX6_value cX6_value 2 (some .int)) ({ frames := 5, cells := 0, slots := 0, locals := 122 } : Room) (pcR D q (wX6 q a v) [.ref (a 99), .int x1]) (vp_Si (fun x => x = res)) 0 0 (fun _ => False) := by
  refine Met.ofW (cc := cX6_value) (maxL := 2) (ret := (some .int)) (by decide) rfl ?_
  intro p e s m args below meth c s₁ B hml hv
  obtain ⟨rfl, hP0, hK⟩ := hv
  have hx := B.exec
  have hb := B.bytes
  have hr := B.returns
  have hW := mw_ws (atoms_spec (ws := mw yX6_value cX6_value 2 (some .int)) B.pre)
  have hown : s.vm.findClass RX6 = some m.cls := findClass_of_methodNamed B.named
  have hlocks := B.notSynchronized
  have X : Cx p s m [.ref (a 99), .int x1].toArray c cX6_value 2 RX6 D q := ⟨hx, hb, hml, hown, hW, hK⟩
  have hl0 := lv_entry ([.ref (a 99), .int x1]) (n := 2) (Nat.le_of_ble_eq_true rfl)
  rw [lg_entry_eq]
  generalize (lg_sl ([.ref (a 99), .int x1]) ++ List.replicate (2 - (lg_sl ([.ref (a 99), .int x1])).length) Slot.unset).toArray = ls0 at hl0 ⊢
  have hl0 : lv_has ls0 2 [(0, .ref (a 99)), (1, .int x1)] := hl0
  unfold m_X6_value at hm
  refine lv_iload_n hx hb dX6_value_0 rfl (lv_at hl0 1 rfl) ?_
  refine lv_i2l hx hb dX6_value_1 rfl ?_
  refine lv_lconst (v := (0 : Int64)) hx hb dX6_value_2 (by decide) ?_
  refine lv_iconst (v := (1 : Int32)) hx hb dX6_value_3 (by decide) ?_
  refine lv_aload_n hx hb dX6_value_4 rfl (lv_at hl0 0 rfl) ?_
  refine va_get (D := D) (ci := 6) (v := .int (v 0 2)) (C := RX6) (T := TX6) (N := 40) hx hb hW iX6 hown hK hP0 0 rfl rfl 2 (by decide) (hW _ k_869) (fun _ h => h) rfl dX6_value_5 ?_
  refine lv_ishl hx hb dX6_value_8 ?_
  refine lv_iconst (v := (1 : Int32)) hx hb dX6_value_9 (by decide) ?_
  refine lv_isub hx hb dX6_value_10 ?_
  refine lv_i2l hx hb dX6_value_11 rfl ?_
  obtain ⟨y12, hy12, hm⟩ := bn hm
  refine cSRi (As := [.long (x1.toInt64), .long (0 : Int64), .long ((((1 : Int32) <<< ((v 0 2) &&& 31)) - (1 : Int32)).toInt64)]) (rest := []) X hP0 hl0.1 (c_X6_in l D q (x1.toInt64) (0 : Int64) ((((1 : Int32) <<< ((v 0 2) &&& 31)) - (1 : Int32)).toInt64) y12 hy12) [] rfl k_993 mX6_in ⟨rfl, rfl⟩ ⟨Nat.le_of_ble_eq_true rfl, Nat.le_of_ble_eq_true rfl⟩ rfl rfl (Nat.le_of_ble_eq_true rfl) dX6_value_12 ⟨Nat.zero_le _, Nat.zero_le _⟩ ?_
  refine lv_if_eq (tgt := 27) hx hb dX6_value_15 (by decide) (fun c15 => ?_) (fun c15 => ?_)
  · replace hm := tp hm c15
    refine lv_iconst (v := (-1 : Int32)) hx hb dX6_value_27 (by decide) ?_
    exact eRi  X hr hlocks hm dX6_value_28
  · replace hm := tn hm c15
    refine lv_aload_n hx hb dX6_value_18 rfl (lv_at hl0 0 rfl) ?_
    refine lv_iconst (v := (0 : Int32)) hx hb dX6_value_19 (by decide) ?_
    refine lv_iload_n hx hb dX6_value_20 rfl (lv_at hl0 1 rfl) ?_
    obtain ⟨y21, hy21, hm⟩ := bn hm
    refine cVRi (As := [.int (0 : Int32), .int x1]) (rest := []) X hP0 hl0.1 (c_X6_valueOn l D q a v (0 : Int32) x1 y21 hy21) [0, 1, 2, 3, 4, 5, 6, 7, 8, 9, 10, 11, 12, 13, 14, 15, 16, 17] rfl 0 rfl rfl rfl k_1233 mX6_valueOn ⟨rfl, rfl⟩ ⟨Nat.le_of_ble_eq_true rfl, Nat.le_of_ble_eq_true rfl⟩ rfl rfl (Nat.le_of_ble_eq_true rfl) dX6_value_21 ⟨Nat.zero_le _, Nat.zero_le _⟩ ?_
    refine lv_goto (tgt := 28) hx hb dX6_value_24 (by decide) ?_
    exact eRi  X hr hlocks hm dX6_value_28
noncomputable def m_X6_orders_K4 (z4 : Int32 × Int32) : Option (Int32) :=
  some z4.1
noncomputable def m_X6_orders_L4 (x1 : Int32) (z4 : Int32 × Int32) : Option ((Int32 × Int32) ⊕ (Int32 × Int32)) :=
  (if x1 < z4.2 then some (.inr (z4.1, z4.2)) else some (.inl ((z4.1 * z4.2), (z4.2 + (1 : Int32)))))
noncomputable def m_X6_orders (x1 : Int32) : Option (Int32) :=
  (lpC (m_X6_orders_L4 x1) ((1 : Int32), (2 : Int32))).bind (m_X6_orders_K4)
set_option maxHeartbeats 4000000 in
set_option maxRecDepth 100000 in
theorem c_X6_orders (l : Launch) (D : va_G) (q : Nat → ClassId) (x1 : Int32) (res : Int32) (hm : m_X6_orders x1 = some res) : Met l yX6_orders (mw yX6_orders cX6_orders 3 (some .int)) ({ frames := 0, cells := 0, slots := 0, locals := 0 } : Room) (pcR D q ([]) [.int x1]) (vp_Si (fun x => x = res)) 0 0 (fun _ => False) := by
  refine Met.ofW (cc := cX6_orders) (maxL := 3) (ret := (some .int)) (by decide) rfl ?_
  intro p e s m args below meth c s₁ B hml hv
  obtain ⟨rfl, hP0, hK⟩ := hv
  have hx := B.exec
  have hb := B.bytes
  have hr := B.returns
  have hW := mw_ws (atoms_spec (ws := mw yX6_orders cX6_orders 3 (some .int)) B.pre)
  have hown : s.vm.findClass RX6 = some m.cls := findClass_of_methodNamed B.named
  have hlocks := B.notSynchronized
  have X : Cx p s m [.int x1].toArray c cX6_orders 3 RX6 D q := ⟨hx, hb, hml, hown, hW, hK⟩
  have hl0 := lv_entry ([.int x1]) (n := 3) (Nat.le_of_ble_eq_true rfl)
  rw [lg_entry_eq]
  generalize (lg_sl ([.int x1]) ++ List.replicate (3 - (lg_sl ([.int x1])).length) Slot.unset).toArray = ls0 at hl0 ⊢
  have hl0 : lv_has ls0 3 [(0, .int x1)] := hl0
  unfold m_X6_orders at hm
  refine lv_iconst (v := (1 : Int32)) hx hb dX6_orders_0 (by decide) ?_
  refine lv_istore_n (lv' := [(1, .int (1 : Int32)), (0, .int x1)]) hx hb dX6_orders_1 rfl hl0 (by decide) rfl (fun ls1 hl1 => ?_)
  clear hl0
  refine lv_iconst (v := (2 : Int32)) hx hb dX6_orders_2 (by decide) ?_
  refine lv_istore_n (lv' := [(2, .int (2 : Int32)), (1, .int (1 : Int32)), (0, .int x1)]) hx hb dX6_orders_3 rfl hl1 (by decide) rfl (fun ls2 hl2 => ?_)
  clear hl1
  obtain ⟨r4, hr4, hm⟩ := bn hm
  obtain ⟨n4, hn4⟩ := lpC_ex hr4
  have hE4 : ∀ z4 : Int32 × Int32, m_X6_orders_K4 z4 = some res → ∀ ls : Array Slot, lv_has ls 3 [(1, .int z4.1)] → W p l e ((headSpec (mw yX6_orders cX6_orders 3 (some .int)) ({ frames := 0, cells := 0, slots := 0, locals := 0 } : Room)).room) s m [.int x1].toArray below meth c s.heap [] 0 0 (MQ below (vp_Si (fun x => x = res)) [.int x1].toArray s 0 0 (fun _ => False)) (F0 m 19 ls []) := by
    intro z4 hm ls4 hl4
    unfold m_X6_orders_K4 at hm
    refine lv_iload_n hx hb dX6_orders_19 rfl (lv_at hl4 0 rfl) ?_
    exact eRi  X hr hlocks hm dX6_orders_20
  have hL4 : ∀ (n : Nat) (z4 : Int32 × Int32) (ρ4 : Int32 × Int32), lpO (m_X6_orders_L4 x1) n z4 = some ρ4 → (m_X6_orders_K4) ρ4 = some res → ∀ ls : Array Slot, lv_has ls 3 [(0, .int x1), (1, .int z4.1), (2, .int z4.2)] → W p l e ((headSpec (mw yX6_orders cX6_orders 3 (some .int)) ({ frames := 0, cells := 0, slots := 0, locals := 0 } : Room)).room) s m [.int x1].toArray below meth c s.heap [] 0 0 (MQ below (vp_Si (fun x => x = res)) [.int x1].toArray s 0 0 (fun _ => False)) (F0 m 4 ls []) := by
    intro n
    induction n with
    | zero => intro _ _ h; cases h
    | succ n ih4 =>
      intro z4 ρ4 hz4 hK4 ls3 hl3
      obtain ⟨t4, hm, hz4⟩ := bn hz4
      unfold m_X6_orders_L4 at hm
      refine lv_iload_n hx hb dX6_orders_4 rfl (lv_at hl3 2 rfl) ?_
      refine lv_iload_n hx hb dX6_orders_5 rfl (lv_at hl3 0 rfl) ?_
      refine lv_icmp_gt (tgt := 19) hx hb dX6_orders_6 (by decide) (fun c6 => ?_) (fun c6 => ?_)
      · replace hm := tp hm c6
        cases hm
        cases hz4
        exact hE4 (z4.1, z4.2) hK4 _ (lv_sub hl3 [1] rfl)
      · replace hm := tn hm c6
        refine lv_iload_n hx hb dX6_orders_9 rfl (lv_at hl3 1 rfl) ?_
        refine lv_iload_n hx hb dX6_orders_10 rfl (lv_at hl3 2 rfl) ?_
        refine lv_imul hx hb dX6_orders_11 ?_
        refine lv_istore_n (lv' := [(1, .int (z4.1 * z4.2)), (0, .int x1), (2, .int z4.2)]) hx hb dX6_orders_12 rfl hl3 (by decide) rfl (fun ls5 hl5 => ?_)
        clear hl3
        refine lv_iinc (v := (z4.2 + (1 : Int32))) (lv' := [(2, .int (z4.2 + (1 : Int32))), (1, .int (z4.1 * z4.2)), (0, .int x1)]) hx hb dX6_orders_13 hl5 (k := 2) rfl rfl (by decide) rfl (fun ls6 hl6 => ?_)
        clear hl5
        refine lv_goto (tgt := 4) hx hb dX6_orders_16 (by decide) ?_
        cases hm
        exact ih4 ((z4.1 * z4.2), (z4.2 + (1 : Int32))) ρ4 hz4 hK4 _ (lv_sub hl6 [2, 1, 0] rfl)
  exact hL4 n4 ((1 : Int32), (2 : Int32)) r4 hn4 hm _ (lv_sub hl2 [2, 1, 0] rfl)
noncomputable def m_X6_share_K27 (v : SV) (x2 : Int32) (z27 : Int64 × Int32) : Option (Int64) :=
  (m_X6_orders (v 0 2)).bind (fun y109 => (m_X6_lowest z27.1 (y109.toInt64) x2).bind (fun y114 => some y114))
noncomputable def m_X6_share_L27 (v : SV) (x1 : Int32) (z27 : Int64 × Int32) : Option ((Int64 × Int32) ⊕ (Int64 × Int32)) :=
  (if ((1 : Int32) <<< ((v 0 2) &&& 31)) ≤ z27.2 then some (.inr (z27.1, z27.2)) else (if ((z27.2 >>> (x1 &&& 31)) &&& (1 : Int32)) = 0 then (m_X6_bitsOf z27.2).bind (fun y49 => (m_X6_valueOn v (0 : Int32) (z27.2 ||| ((1 : Int32) <<< (x1 &&& 31)))).bind (fun y63 => (m_X6_valueOn v (0 : Int32) z27.2).bind (fun y70 => (m_X6_orders y49).bind (fun y77 => (m_X6_orders (((v 0 2) - y49) - (1 : Int32))).bind (fun y91 => some (.inl ((z27.1 + ((((y63 - y70).toInt64) * (y77.toInt64)) * (y91.toInt64))), (z27.2 + (1 : Int32))))))))) else some (.inl (z27.1, (z27.2 + (1 : Int32))))))
noncomputable def m_X6_share (v : SV) (x1 : Int32) (x2 : Int32) : Option (Int64) :=
  (m_X6_isSitter v x1).bind (fun y2 => (if y2 = 0 then some (-1 : Int64) else (m_X6_in (x2.toInt64) (0 : Int64) (1 : Int64)).bind (fun y12 => (if y12 = 0 then some (-1 : Int64) else (lpC (m_X6_share_L27 v x1) ((0 : Int64), (0 : Int32))).bind (m_X6_share_K27 v x2)))))
set_option maxHeartbeats 4000000 in
set_option maxRecDepth 100000 in
theorem c_X6_share (l : Launch) (D : va_G) (q : Nat → ClassId) (a : Nat → Nat) (v : SV) (x1 : Int32) (x2 : Int32) (res : Int64) (hm : m_X6_share v x1 x2 = some res) : Met l yX6_share (mw yX6_share cX6_share 7 (some .long)) ({ frames := 5, cells := 0, slots := 0, locals := 122 } : Room) (pcR D q (wX6 q a v) [.ref (a 99), .int x1, .int x2]) (vp_Sl (fun x => x = res)) 0 0 (fun _ => False) := by
  refine Met.ofW (cc := cX6_share) (maxL := 7) (ret := (some .long)) (by decide) rfl ?_
  intro p e s m args below meth c s₁ B hml hv
  obtain ⟨rfl, hP0, hK⟩ := hv
  have hx := B.exec
  have hb := B.bytes
  have hr := B.returns
  have hW := mw_ws (atoms_spec (ws := mw yX6_share cX6_share 7 (some .long)) B.pre)
  have hown : s.vm.findClass RX6 = some m.cls := findClass_of_methodNamed B.named
  have hlocks := B.notSynchronized
  have X : Cx p s m [.ref (a 99), .int x1, .int x2].toArray c cX6_share 7 RX6 D q := ⟨hx, hb, hml, hown, hW, hK⟩
  have hl0 := lv_entry ([.ref (a 99), .int x1, .int x2]) (n := 7) (Nat.le_of_ble_eq_true rfl)
  rw [lg_entry_eq]
  generalize (lg_sl ([.ref (a 99), .int x1, .int x2]) ++ List.replicate (7 - (lg_sl ([.ref (a 99), .int x1, .int x2])).length) Slot.unset).toArray = ls0 at hl0 ⊢
  have hl0 : lv_has ls0 7 [(0, .ref (a 99)), (1, .int x1), (2, .int x2)] := hl0
  unfold m_X6_share at hm
  refine lv_aload_n hx hb dX6_share_0 rfl (lv_at hl0 0 rfl) ?_
  refine lv_iload_n hx hb dX6_share_1 rfl (lv_at hl0 1 rfl) ?_
  obtain ⟨y2, hy2, hm⟩ := bn hm
  refine cVRi (As := [.int x1]) (rest := []) X hP0 hl0.1 (c_X6_isSitter l D q a v x1 y2 hy2) [0, 1, 2, 3, 4, 5, 6, 7, 8, 9, 10, 11, 12, 13, 14, 15, 16, 17] rfl 0 rfl rfl rfl k_1102 mX6_isSitter ⟨rfl, rfl⟩ ⟨Nat.le_of_ble_eq_true rfl, Nat.le_of_ble_eq_true rfl⟩ rfl rfl (Nat.le_of_ble_eq_true rfl) dX6_share_2 ⟨Nat.zero_le _, Nat.zero_le _⟩ ?_
  refine lv_if_eq (tgt := 18) hx hb dX6_share_5 (by decide) (fun c5 => ?_) (fun c5 => ?_)
  · replace hm := tp hm c5
    refine lv_ldc2 (v := (-1 : Int64)) hx hb hown (hW _ k_1127) dX6_share_18 ?_
    exact eRl  X hr hlocks hm dX6_share_21
  · replace hm := tn hm c5
    refine lv_iload_n hx hb dX6_share_8 rfl (lv_at hl0 2 rfl) ?_
    refine lv_i2l hx hb dX6_share_9 rfl ?_
    refine lv_lconst (v := (0 : Int64)) hx hb dX6_share_10 (by decide) ?_
    refine lv_lconst (v := (1 : Int64)) hx hb dX6_share_11 (by decide) ?_
    obtain ⟨y12, hy12, hm⟩ := bn hm
    refine cSRi (As := [.long (x2.toInt64), .long (0 : Int64), .long (1 : Int64)]) (rest := []) X hP0 hl0.1 (c_X6_in l D q (x2.toInt64) (0 : Int64) (1 : Int64) y12 hy12) [] rfl k_993 mX6_in ⟨rfl, rfl⟩ ⟨Nat.le_of_ble_eq_true rfl, Nat.le_of_ble_eq_true rfl⟩ rfl rfl (Nat.le_of_ble_eq_true rfl) dX6_share_12 ⟨Nat.zero_le _, Nat.zero_le _⟩ ?_
    refine lv_if_ne (tgt := 22) hx hb dX6_share_15 (by decide) (fun c15 => ?_) (fun c15 => ?_)
    · replace hm := tn hm c15
      refine lv_lconst (v := (0 : Int64)) hx hb dX6_share_22 (by decide) ?_
      refine lv_lstore_n (lv' := [(3, .long (0 : Int64)), (0, .ref (a 99)), (1, .int x1), (2, .int x2)]) hx hb dX6_share_23 rfl hl0 (by decide) rfl (fun ls1 hl1 => ?_)
      clear hl0
      refine lv_iconst (v := (0 : Int32)) hx hb dX6_share_24 (by decide) ?_
      refine lv_istore (lv' := [(5, .int (0 : Int32)), (3, .long (0 : Int64)), (0, .ref (a 99)), (1, .int x1), (2, .int x2)]) hx hb dX6_share_25 hl1 (by decide) rfl (fun ls2 hl2 => ?_)
      clear hl1
      obtain ⟨r27, hr27, hm⟩ := bn hm
      obtain ⟨n27, hn27⟩ := lpC_ex hr27
      have hE27 : ∀ z27 : Int64 × Int32, m_X6_share_K27 v x2 z27 = some res → ∀ ls : Array Slot, lv_has ls 7 [(0, .ref (a 99)), (2, .int x2), (3, .long z27.1)] → W p l e ((headSpec (mw yX6_share cX6_share 7 (some .long)) ({ frames := 5, cells := 0, slots := 0, locals := 122 } : Room)).room) s m [.ref (a 99), .int x1, .int x2].toArray below meth c s.heap [] 0 0 (MQ below (vp_Sl (fun x => x = res)) [.ref (a 99), .int x1, .int x2].toArray s 0 0 (fun _ => False)) (F0 m 104 ls []) := by
        intro z27 hm ls4 hl4
        unfold m_X6_share_K27 at hm
        refine lv_lload_n hx hb dX6_share_104 rfl (lv_at hl4 2 rfl) ?_
        refine lv_aload_n hx hb dX6_share_105 rfl (lv_at hl4 0 rfl) ?_
        refine va_get (D := D) (ci := 6) (v := .int (v 0 2)) (C := RX6) (T := TX6) (N := 40) hx hb hW iX6 hown hK hP0 0 rfl rfl 2 (by decide) (hW _ k_869) (fun _ h => h) rfl dX6_share_106 ?_
        obtain ⟨y109, hy109, hm⟩ := bn hm
        refine cSRi (As := [.int (v 0 2)]) (rest := [.long z27.1]) X hP0 hl4.1 (c_X6_orders l D q (v 0 2) y109 hy109) [] rfl k_1244 mX6_orders ⟨rfl, rfl⟩ ⟨Nat.le_of_ble_eq_true rfl, Nat.le_of_ble_eq_true rfl⟩ rfl rfl (Nat.le_of_ble_eq_true rfl) dX6_share_109 ⟨Nat.zero_le _, Nat.zero_le _⟩ ?_
        refine lv_i2l hx hb dX6_share_112 rfl ?_
        refine lv_iload_n hx hb dX6_share_113 rfl (lv_at hl4 1 rfl) ?_
        obtain ⟨y114, hy114, hm⟩ := bn hm
        refine cSRl (As := [.long z27.1, .long (y109.toInt64), .int x2]) (rest := []) X hP0 hl4.1 (c_X6_lowest l D q z27.1 (y109.toInt64) x2 y114 hy114) [] rfl k_1247 mX6_lowest ⟨rfl, rfl⟩ ⟨Nat.le_of_ble_eq_true rfl, Nat.le_of_ble_eq_true rfl⟩ rfl rfl (Nat.le_of_ble_eq_true rfl) dX6_share_114 ⟨Nat.zero_le _, Nat.zero_le _⟩ ?_
        exact eRl  X hr hlocks hm dX6_share_117
      have hL27 : ∀ (n : Nat) (z27 : Int64 × Int32) (ρ27 : Int64 × Int32), lpO (m_X6_share_L27 v x1) n z27 = some ρ27 → (m_X6_share_K27 v x2) ρ27 = some res → ∀ ls : Array Slot, lv_has ls 7 [(0, .ref (a 99)), (1, .int x1), (2, .int x2), (3, .long z27.1), (5, .int z27.2)] → W p l e ((headSpec (mw yX6_share cX6_share 7 (some .long)) ({ frames := 5, cells := 0, slots := 0, locals := 122 } : Room)).room) s m [.ref (a 99), .int x1, .int x2].toArray below meth c s.heap [] 0 0 (MQ below (vp_Sl (fun x => x = res)) [.ref (a 99), .int x1, .int x2].toArray s 0 0 (fun _ => False)) (F0 m 27 ls []) := by
        intro n
        induction n with
        | zero => intro _ _ h; cases h
        | succ n ih27 =>
          intro z27 ρ27 hz27 hK27 ls3 hl3
          obtain ⟨t27, hm, hz27⟩ := bn hz27
          unfold m_X6_share_L27 at hm
          refine lv_iload hx hb dX6_share_27 (lv_at hl3 4 rfl) ?_
          refine lv_iconst (v := (1 : Int32)) hx hb dX6_share_29 (by decide) ?_
          refine lv_aload_n hx hb dX6_share_30 rfl (lv_at hl3 0 rfl) ?_
          refine va_get (D := D) (ci := 6) (v := .int (v 0 2)) (C := RX6) (T := TX6) (N := 40) hx hb hW iX6 hown hK hP0 0 rfl rfl 2 (by decide) (hW _ k_869) (fun _ h => h) rfl dX6_share_31 ?_
          refine lv_ishl hx hb dX6_share_34 ?_
          refine lv_icmp_ge (tgt := 104) hx hb dX6_share_35 (by decide) (fun c35 => ?_) (fun c35 => ?_)
          · replace hm := tp hm c35
            cases hm
            cases hz27
            exact hE27 (z27.1, z27.2) hK27 _ (lv_sub hl3 [0, 2, 3] rfl)
          · replace hm := tn hm c35
            refine lv_iload hx hb dX6_share_38 (lv_at hl3 4 rfl) ?_
            refine lv_iload_n hx hb dX6_share_40 rfl (lv_at hl3 1 rfl) ?_
            refine lv_ishr hx hb dX6_share_41 ?_
            refine lv_iconst (v := (1 : Int32)) hx hb dX6_share_42 (by decide) ?_
            refine lv_iand hx hb dX6_share_43 ?_
            refine lv_if_ne (tgt := 98) hx hb dX6_share_44 (by decide) (fun c44 => ?_) (fun c44 => ?_)
            · replace hm := tn hm c44
              refine lv_iinc (v := (z27.2 + (1 : Int32))) (lv' := [(5, .int (z27.2 + (1 : Int32))), (0, .ref (a 99)), (1, .int x1), (2, .int x2), (3, .long z27.1)]) hx hb dX6_share_98 hl3 (k := 4) rfl rfl (by decide) rfl (fun ls8 hl8 => ?_)
              clear hl3
              refine lv_goto (tgt := 27) hx hb dX6_share_101 (by decide) ?_
              cases hm
              exact ih27 (z27.1, (z27.2 + (1 : Int32))) ρ27 hz27 hK27 _ (lv_sub hl8 [1, 2, 3, 4, 0] rfl)
            · replace hm := tp hm c44
              refine lv_iload hx hb dX6_share_47 (lv_at hl3 4 rfl) ?_
              obtain ⟨y49, hy49, hm⟩ := bn hm
              refine cSRi (As := [.int z27.2]) (rest := []) X hP0 hl3.1 (c_X6_bitsOf l D q z27.2 y49 hy49) [] rfl k_1241 mX6_bitsOf ⟨rfl, rfl⟩ ⟨Nat.le_of_ble_eq_true rfl, Nat.le_of_ble_eq_true rfl⟩ rfl rfl (Nat.le_of_ble_eq_true rfl) dX6_share_49 ⟨Nat.zero_le _, Nat.zero_le _⟩ ?_
              refine lv_istore (lv' := [(6, .int y49), (0, .ref (a 99)), (1, .int x1), (2, .int x2), (3, .long z27.1), (5, .int z27.2)]) hx hb dX6_share_52 hl3 (by decide) rfl (fun ls5 hl5 => ?_)
              clear hl3
              refine lv_lload_n hx hb dX6_share_54 rfl (lv_at hl5 4 rfl) ?_
              refine lv_aload_n hx hb dX6_share_55 rfl (lv_at hl5 1 rfl) ?_
              refine lv_iconst (v := (0 : Int32)) hx hb dX6_share_56 (by decide) ?_
              refine lv_iload hx hb dX6_share_57 (lv_at hl5 5 rfl) ?_
              refine lv_iconst (v := (1 : Int32)) hx hb dX6_share_59 (by decide) ?_
              refine lv_iload_n hx hb dX6_share_60 rfl (lv_at hl5 2 rfl) ?_
              refine lv_ishl hx hb dX6_share_61 ?_
              refine lv_ior hx hb dX6_share_62 ?_
              obtain ⟨y63, hy63, hm⟩ := bn hm
              refine cVRi (As := [.int (0 : Int32), .int (z27.2 ||| ((1 : Int32) <<< (x1 &&& 31)))]) (rest := [.long z27.1]) X hP0 hl5.1 (c_X6_valueOn l D q a v (0 : Int32) (z27.2 ||| ((1 : Int32) <<< (x1 &&& 31))) y63 hy63) [0, 1, 2, 3, 4, 5, 6, 7, 8, 9, 10, 11, 12, 13, 14, 15, 16, 17] rfl 0 rfl rfl rfl k_1233 mX6_valueOn ⟨rfl, rfl⟩ ⟨Nat.le_of_ble_eq_true rfl, Nat.le_of_ble_eq_true rfl⟩ rfl rfl (Nat.le_of_ble_eq_true rfl) dX6_share_63 ⟨Nat.zero_le _, Nat.zero_le _⟩ ?_
              refine lv_aload_n hx hb dX6_share_66 rfl (lv_at hl5 1 rfl) ?_
              refine lv_iconst (v := (0 : Int32)) hx hb dX6_share_67 (by decide) ?_
              refine lv_iload hx hb dX6_share_68 (lv_at hl5 5 rfl) ?_
              obtain ⟨y70, hy70, hm⟩ := bn hm
              refine cVRi (As := [.int (0 : Int32), .int z27.2]) (rest := [.int y63, .long z27.1]) X hP0 hl5.1 (c_X6_valueOn l D q a v (0 : Int32) z27.2 y70 hy70) [0, 1, 2, 3, 4, 5, 6, 7, 8, 9, 10, 11, 12, 13, 14, 15, 16, 17] rfl 0 rfl rfl rfl k_1233 mX6_valueOn ⟨rfl, rfl⟩ ⟨Nat.le_of_ble_eq_true rfl, Nat.le_of_ble_eq_true rfl⟩ rfl rfl (Nat.le_of_ble_eq_true rfl) dX6_share_70 ⟨Nat.zero_le _, Nat.zero_le _⟩ ?_
              refine lv_isub hx hb dX6_share_73 ?_
              refine lv_i2l hx hb dX6_share_74 rfl ?_
              refine lv_iload hx hb dX6_share_75 (lv_at hl5 0 rfl) ?_
              obtain ⟨y77, hy77, hm⟩ := bn hm
              refine cSRi (As := [.int y49]) (rest := [.long ((y63 - y70).toInt64), .long z27.1]) X hP0 hl5.1 (c_X6_orders l D q y49 y77 hy77) [] rfl k_1244 mX6_orders ⟨rfl, rfl⟩ ⟨Nat.le_of_ble_eq_true rfl, Nat.le_of_ble_eq_true rfl⟩ rfl rfl (Nat.le_of_ble_eq_true rfl) dX6_share_77 ⟨Nat.zero_le _, Nat.zero_le _⟩ ?_
              refine lv_i2l hx hb dX6_share_80 rfl ?_
              refine lv_lmul hx hb dX6_share_81 ?_
              refine lv_aload_n hx hb dX6_share_82 rfl (lv_at hl5 1 rfl) ?_
              refine va_get (D := D) (ci := 6) (v := .int (v 0 2)) (C := RX6) (T := TX6) (N := 40) hx hb hW iX6 hown hK hP0 0 rfl rfl 2 (by decide) (hW _ k_869) (fun _ h => h) rfl dX6_share_83 ?_
              refine lv_iload hx hb dX6_share_86 (lv_at hl5 0 rfl) ?_
              refine lv_isub hx hb dX6_share_88 ?_
              refine lv_iconst (v := (1 : Int32)) hx hb dX6_share_89 (by decide) ?_
              refine lv_isub hx hb dX6_share_90 ?_
              obtain ⟨y91, hy91, hm⟩ := bn hm
              refine cSRi (As := [.int (((v 0 2) - y49) - (1 : Int32))]) (rest := [.long (((y63 - y70).toInt64) * (y77.toInt64)), .long z27.1]) X hP0 hl5.1 (c_X6_orders l D q (((v 0 2) - y49) - (1 : Int32)) y91 hy91) [] rfl k_1244 mX6_orders ⟨rfl, rfl⟩ ⟨Nat.le_of_ble_eq_true rfl, Nat.le_of_ble_eq_true rfl⟩ rfl rfl (Nat.le_of_ble_eq_true rfl) dX6_share_91 ⟨Nat.zero_le _, Nat.zero_le _⟩ ?_
              refine lv_i2l hx hb dX6_share_94 rfl ?_
              refine lv_lmul hx hb dX6_share_95 ?_
              refine lv_ladd hx hb dX6_share_96 ?_
              refine lv_lstore_n (lv' := [(3, .long (z27.1 + ((((y63 - y70).toInt64) * (y77.toInt64)) * (y91.toInt64)))), (6, .int y49), (0, .ref (a 99)), (1, .int x1), (2, .int x2), (5, .int z27.2)]) hx hb dX6_share_97 rfl hl5 (by decide) rfl (fun ls6 hl6 => ?_)
              clear hl5
              refine lv_iinc (v := (z27.2 + (1 : Int32))) (lv' := [(5, .int (z27.2 + (1 : Int32))), (3, .long (z27.1 + ((((y63 - y70).toInt64) * (y77.toInt64)) * (y91.toInt64)))), (6, .int y49), (0, .ref (a 99)), (1, .int x1), (2, .int x2)]) hx hb dX6_share_98 hl6 (k := 5) rfl rfl (by decide) rfl (fun ls7 hl7 => ?_)
              clear hl6
              refine lv_goto (tgt := 27) hx hb dX6_share_101 (by decide) ?_
              cases hm
              exact ih27 ((z27.1 + ((((y63 - y70).toInt64) * (y77.toInt64)) * (y91.toInt64))), (z27.2 + (1 : Int32))) ρ27 hz27 hK27 _ (lv_sub hl7 [3, 4, 5, 1, 0] rfl)
      exact hL27 n27 ((0 : Int64), (0 : Int32)) r27 hn27 hm _ (lv_sub hl2 [2, 3, 4, 1, 0] rfl)
    · replace hm := tp hm c15
      refine lv_ldc2 (v := (-1 : Int64)) hx hb hown (hW _ k_1127) dX6_share_18 ?_
      exact eRl  X hr hlocks hm dX6_share_21
noncomputable def m_X6_looksAll_K4 (z4 : Int32 × Int32) : Option (Int32) :=
  ck (nzB z4.1) (some z4.1)
noncomputable def m_X6_looksAll_K18 (z4 : Int32 × Int32) (z18 : Int32 × Int32) : Option ((Int32 × Int32) ⊕ (Int32 × Int32)) :=
  (if z4.1 = 0 then some (.inl ((0 : Int32), (z4.2 + (1 : Int32)))) else (if z18.1 = 0 then some (.inl ((0 : Int32), (z4.2 + (1 : Int32)))) else some (.inl ((1 : Int32), (z4.2 + (1 : Int32))))))
noncomputable def m_X6_looksAll_L18 (v : SV) (x1 : Int32) (z4 : Int32 × Int32) (z18 : Int32 × Int32) : Option ((Int32 × Int32) ⊕ (Int32 × Int32)) :=
  (if (v 0 1) ≤ z18.2 then some (.inr (z18.1, z18.2)) else (m_X6_topOn v (0 : Int32) z18.2).bind (fun y31 => (if z18.1 = 0 then (if ((x1 >>> (z18.2 &&& 31)) &&& (1 : Int32)) = (1 : Int32) then (if y31 = (-4 : Int32) then some (.inl ((0 : Int32), (z18.2 + (1 : Int32)))) else ck (inB z4.2 4) ((if (((v 5 ((z4.2).toNatClampNeg)) >>> (y31 &&& 31)) &&& (1 : Int32)) = (1 : Int32) then some (.inl ((1 : Int32), (z18.2 + (1 : Int32)))) else some (.inl ((0 : Int32), (z18.2 + (1 : Int32))))))) else some (.inl ((0 : Int32), (z18.2 + (1 : Int32))))) else some (.inl ((1 : Int32), (z18.2 + (1 : Int32)))))))
noncomputable def m_X6_looksAll_L4 (v : SV) (x1 : Int32) (z4 : Int32 × Int32) : Option ((Int32 × Int32) ⊕ (Int32 × Int32)) :=
  (if (v 0 6) ≤ z4.2 then some (.inr (z4.1, z4.2)) else (lpC (m_X6_looksAll_L18 v x1 z4) ((0 : Int32), (0 : Int32))).bind (m_X6_looksAll_K18 z4))
noncomputable def m_X6_looksAll (v : SV) (x1 : Int32) : Option (Int32) :=
  (lpC (m_X6_looksAll_L4 v x1) ((1 : Int32), (0 : Int32))).bind (m_X6_looksAll_K4)
set_option maxHeartbeats 4000000 in
set_option maxRecDepth 100000 in
theorem c_X6_looksAll (l : Launch) (D : va_G) (q : Nat → ClassId) (a : Nat → Nat) (v : SV) (x1 : Int32) (res : Int32) (hm : m_X6_looksAll v x1 = some res) : Met l yX6_looksAll (mw yX6_looksAll cX6_looksAll 7 (some .boolean)) ({ frames := 1, cells := 0, slots := 0, locals := 23 } : Room) (pcR D q (wX6 q a v) [.ref (a 99), .int x1]) (vp_Si (fun x => x = res)) 0 0 (fun _ => False) := by
  refine Met.ofW (cc := cX6_looksAll) (maxL := 7) (ret := (some .boolean)) (by decide) rfl ?_
  intro p e s m args below meth c s₁ B hml hv
  obtain ⟨rfl, hP0, hK⟩ := hv
  have hx := B.exec
  have hb := B.bytes
  have hr := B.returns
  have hW := mw_ws (atoms_spec (ws := mw yX6_looksAll cX6_looksAll 7 (some .boolean)) B.pre)
  have hown : s.vm.findClass RX6 = some m.cls := findClass_of_methodNamed B.named
  have hlocks := B.notSynchronized
  have X : Cx p s m [.ref (a 99), .int x1].toArray c cX6_looksAll 7 RX6 D q := ⟨hx, hb, hml, hown, hW, hK⟩
  have hl0 := lv_entry ([.ref (a 99), .int x1]) (n := 7) (Nat.le_of_ble_eq_true rfl)
  rw [lg_entry_eq]
  generalize (lg_sl ([.ref (a 99), .int x1]) ++ List.replicate (7 - (lg_sl ([.ref (a 99), .int x1])).length) Slot.unset).toArray = ls0 at hl0 ⊢
  have hl0 : lv_has ls0 7 [(0, .ref (a 99)), (1, .int x1)] := hl0
  unfold m_X6_looksAll at hm
  refine lv_iconst (v := (1 : Int32)) hx hb dX6_looksAll_0 (by decide) ?_
  refine lv_istore_n (lv' := [(2, .int (1 : Int32)), (0, .ref (a 99)), (1, .int x1)]) hx hb dX6_looksAll_1 rfl hl0 (by decide) rfl (fun ls1 hl1 => ?_)
  clear hl0
  refine lv_iconst (v := (0 : Int32)) hx hb dX6_looksAll_2 (by decide) ?_
  refine lv_istore_n (lv' := [(3, .int (0 : Int32)), (2, .int (1 : Int32)), (0, .ref (a 99)), (1, .int x1)]) hx hb dX6_looksAll_3 rfl hl1 (by decide) rfl (fun ls2 hl2 => ?_)
  clear hl1
  obtain ⟨r4, hr4, hm⟩ := bn hm
  obtain ⟨n4, hn4⟩ := lpC_ex hr4
  have hE4 : ∀ z4 : Int32 × Int32, m_X6_looksAll_K4 z4 = some res → ∀ ls : Array Slot, lv_has ls 7 [(2, .int z4.1)] → W p l e ((headSpec (mw yX6_looksAll cX6_looksAll 7 (some .boolean)) ({ frames := 1, cells := 0, slots := 0, locals := 23 } : Room)).room) s m [.ref (a 99), .int x1].toArray below meth c s.heap [] 0 0 (MQ below (vp_Si (fun x => x = res)) [.ref (a 99), .int x1].toArray s 0 0 (fun _ => False)) (F0 m 107 ls []) := by
    intro z4 hm ls4 hl4
    unfold m_X6_looksAll_K4 at hm
    refine lv_iload_n hx hb dX6_looksAll_107 rfl (lv_at hl4 0 rfl) ?_
    obtain ⟨hz0, hm⟩ := ckd hm
    have hnz := nz_nar hz0
    exact eRz  X hr hlocks hnz hm dX6_looksAll_108
  have hL4 : ∀ (n : Nat) (z4 : Int32 × Int32) (ρ4 : Int32 × Int32), lpO (m_X6_looksAll_L4 v x1) n z4 = some ρ4 → (m_X6_looksAll_K4) ρ4 = some res → ∀ ls : Array Slot, lv_has ls 7 [(0, .ref (a 99)), (1, .int x1), (2, .int z4.1), (3, .int z4.2)] → W p l e ((headSpec (mw yX6_looksAll cX6_looksAll 7 (some .boolean)) ({ frames := 1, cells := 0, slots := 0, locals := 23 } : Room)).room) s m [.ref (a 99), .int x1].toArray below meth c s.heap [] 0 0 (MQ below (vp_Si (fun x => x = res)) [.ref (a 99), .int x1].toArray s 0 0 (fun _ => False)) (F0 m 4 ls []) := by
    intro n
    induction n with
    | zero => intro _ _ h; cases h
    | succ n ih4 =>
      intro z4 ρ4 hz4 hK4 ls3 hl3
      obtain ⟨t4, hm, hz4⟩ := bn hz4
      unfold m_X6_looksAll_L4 at hm
      refine lv_iload_n hx hb dX6_looksAll_4 rfl (lv_at hl3 3 rfl) ?_
      refine lv_aload_n hx hb dX6_looksAll_5 rfl (lv_at hl3 0 rfl) ?_
      refine va_get (D := D) (ci := 6) (v := .int (v 0 6)) (C := RX6) (T := TX6) (N := 40) hx hb hW iX6 hown hK hP0 0 rfl rfl 6 (by decide) (hW _ k_873) (fun _ h => h) rfl dX6_looksAll_6 ?_
      refine lv_icmp_ge (tgt := 107) hx hb dX6_looksAll_9 (by decide) (fun c9 => ?_) (fun c9 => ?_)
      · replace hm := tp hm c9
        cases hm
        cases hz4
        exact hE4 (z4.1, z4.2) hK4 _ (lv_sub hl3 [2] rfl)
      · replace hm := tn hm c9
        refine lv_iconst (v := (0 : Int32)) hx hb dX6_looksAll_12 (by decide) ?_
        refine lv_istore (lv' := [(4, .int (0 : Int32)), (0, .ref (a 99)), (1, .int x1), (2, .int z4.1), (3, .int z4.2)]) hx hb dX6_looksAll_13 hl3 (by decide) rfl (fun ls5 hl5 => ?_)
        clear hl3
        refine lv_iconst (v := (0 : Int32)) hx hb dX6_looksAll_15 (by decide) ?_
        refine lv_istore (lv' := [(5, .int (0 : Int32)), (4, .int (0 : Int32)), (0, .ref (a 99)), (1, .int x1), (2, .int z4.1), (3, .int z4.2)]) hx hb dX6_looksAll_16 hl5 (by decide) rfl (fun ls6 hl6 => ?_)
        clear hl5
        obtain ⟨r18, hr18, hm⟩ := bn hm
        obtain ⟨n18, hn18⟩ := lpC_ex hr18
        have hE18 : ∀ z18 : Int32 × Int32, m_X6_looksAll_K18 z4 z18 = some t4 → ∀ ls : Array Slot, lv_has ls 7 [(0, .ref (a 99)), (1, .int x1), (2, .int z4.1), (3, .int z4.2), (4, .int z18.1)] → W p l e ((headSpec (mw yX6_looksAll cX6_looksAll 7 (some .boolean)) ({ frames := 1, cells := 0, slots := 0, locals := 23 } : Room)).room) s m [.ref (a 99), .int x1].toArray below meth c s.heap [] 0 0 (MQ below (vp_Si (fun x => x = res)) [.ref (a 99), .int x1].toArray s 0 0 (fun _ => False)) (F0 m 86 ls []) := by
          intro z18 hm ls8 hl8
          unfold m_X6_looksAll_K18 at hm
          refine lv_iload_n hx hb dX6_looksAll_86 rfl (lv_at hl8 2 rfl) ?_
          refine lv_if_eq (tgt := 99) hx hb dX6_looksAll_87 (by decide) (fun c87 => ?_) (fun c87 => ?_)
          · replace hm := tp hm c87
            refine lv_iconst (v := (0 : Int32)) hx hb dX6_looksAll_99 (by decide) ?_
            refine lv_istore_n (lv' := [(2, .int (0 : Int32)), (0, .ref (a 99)), (1, .int x1), (3, .int z4.2), (4, .int z18.1)]) hx hb dX6_looksAll_100 rfl hl8 (by decide) rfl (fun ls9 hl9 => ?_)
            clear hl8
            refine lv_iinc (v := (z4.2 + (1 : Int32))) (lv' := [(3, .int (z4.2 + (1 : Int32))), (2, .int (0 : Int32)), (0, .ref (a 99)), (1, .int x1), (4, .int z18.1)]) hx hb dX6_looksAll_101 hl9 (k := 3) rfl rfl (by decide) rfl (fun ls10 hl10 => ?_)
            clear hl9
            refine lv_goto (tgt := 4) hx hb dX6_looksAll_104 (by decide) ?_
            cases hm
            exact ih4 ((0 : Int32), (z4.2 + (1 : Int32))) ρ4 hz4 hK4 _ (lv_sub hl10 [2, 3, 1, 0] rfl)
          · replace hm := tn hm c87
            refine lv_iload hx hb dX6_looksAll_90 (lv_at hl8 4 rfl) ?_
            refine lv_if_eq (tgt := 99) hx hb dX6_looksAll_92 (by decide) (fun c92 => ?_) (fun c92 => ?_)
            · replace hm := tp hm c92
              refine lv_iconst (v := (0 : Int32)) hx hb dX6_looksAll_99 (by decide) ?_
              refine lv_istore_n (lv' := [(2, .int (0 : Int32)), (0, .ref (a 99)), (1, .int x1), (3, .int z4.2), (4, .int z18.1)]) hx hb dX6_looksAll_100 rfl hl8 (by decide) rfl (fun ls11 hl11 => ?_)
              clear hl8
              refine lv_iinc (v := (z4.2 + (1 : Int32))) (lv' := [(3, .int (z4.2 + (1 : Int32))), (2, .int (0 : Int32)), (0, .ref (a 99)), (1, .int x1), (4, .int z18.1)]) hx hb dX6_looksAll_101 hl11 (k := 3) rfl rfl (by decide) rfl (fun ls12 hl12 => ?_)
              clear hl11
              refine lv_goto (tgt := 4) hx hb dX6_looksAll_104 (by decide) ?_
              cases hm
              exact ih4 ((0 : Int32), (z4.2 + (1 : Int32))) ρ4 hz4 hK4 _ (lv_sub hl12 [2, 3, 1, 0] rfl)
            · replace hm := tn hm c92
              refine lv_iconst (v := (1 : Int32)) hx hb dX6_looksAll_95 (by decide) ?_
              refine lv_goto (tgt := 100) hx hb dX6_looksAll_96 (by decide) ?_
              refine lv_istore_n (lv' := [(2, .int (1 : Int32)), (0, .ref (a 99)), (1, .int x1), (3, .int z4.2), (4, .int z18.1)]) hx hb dX6_looksAll_100 rfl hl8 (by decide) rfl (fun ls13 hl13 => ?_)
              clear hl8
              refine lv_iinc (v := (z4.2 + (1 : Int32))) (lv' := [(3, .int (z4.2 + (1 : Int32))), (2, .int (1 : Int32)), (0, .ref (a 99)), (1, .int x1), (4, .int z18.1)]) hx hb dX6_looksAll_101 hl13 (k := 3) rfl rfl (by decide) rfl (fun ls14 hl14 => ?_)
              clear hl13
              refine lv_goto (tgt := 4) hx hb dX6_looksAll_104 (by decide) ?_
              cases hm
              exact ih4 ((1 : Int32), (z4.2 + (1 : Int32))) ρ4 hz4 hK4 _ (lv_sub hl14 [2, 3, 1, 0] rfl)
        have hL18 : ∀ (n : Nat) (z18 : Int32 × Int32) (ρ18 : Int32 × Int32), lpO (m_X6_looksAll_L18 v x1 z4) n z18 = some ρ18 → (m_X6_looksAll_K18 z4) ρ18 = some t4 → ∀ ls : Array Slot, lv_has ls 7 [(0, .ref (a 99)), (1, .int x1), (2, .int z4.1), (3, .int z4.2), (4, .int z18.1), (5, .int z18.2)] → W p l e ((headSpec (mw yX6_looksAll cX6_looksAll 7 (some .boolean)) ({ frames := 1, cells := 0, slots := 0, locals := 23 } : Room)).room) s m [.ref (a 99), .int x1].toArray below meth c s.heap [] 0 0 (MQ below (vp_Si (fun x => x = res)) [.ref (a 99), .int x1].toArray s 0 0 (fun _ => False)) (F0 m 18 ls []) := by
          intro n
          induction n with
          | zero => intro _ _ h; cases h
          | succ n ih18 =>
            intro z18 ρ18 hz18 hK18 ls7 hl7
            obtain ⟨t18, hm, hz18⟩ := bn hz18
            unfold m_X6_looksAll_L18 at hm
            refine lv_iload hx hb dX6_looksAll_18 (lv_at hl7 5 rfl) ?_
            refine lv_aload_n hx hb dX6_looksAll_20 rfl (lv_at hl7 0 rfl) ?_
            refine va_get (D := D) (ci := 6) (v := .int (v 0 1)) (C := RX6) (T := TX6) (N := 40) hx hb hW iX6 hown hK hP0 0 rfl rfl 1 (by decide) (hW _ k_868) (fun _ h => h) rfl dX6_looksAll_21 ?_
            refine lv_icmp_ge (tgt := 86) hx hb dX6_looksAll_24 (by decide) (fun c24 => ?_) (fun c24 => ?_)
            · replace hm := tp hm c24
              cases hm
              cases hz18
              exact hE18 (z18.1, z18.2) hK18 _ (lv_sub hl7 [0, 1, 2, 3, 4] rfl)
            · replace hm := tn hm c24
              refine lv_aload_n hx hb dX6_looksAll_27 rfl (lv_at hl7 0 rfl) ?_
              refine lv_iconst (v := (0 : Int32)) hx hb dX6_looksAll_28 (by decide) ?_
              refine lv_iload hx hb dX6_looksAll_29 (lv_at hl7 5 rfl) ?_
              obtain ⟨y31, hy31, hm⟩ := bn hm
              refine cVRi (As := [.int (0 : Int32), .int z18.2]) (rest := []) X hP0 hl7.1 (c_X6_topOn l D q a v (0 : Int32) z18.2 y31 hy31) [0, 1, 2, 3, 4, 5, 6, 7, 8, 9, 10, 11, 12, 13, 14, 15, 16, 17] rfl 0 rfl rfl rfl k_1078 mX6_topOn ⟨rfl, rfl⟩ ⟨Nat.le_of_ble_eq_true rfl, Nat.le_of_ble_eq_true rfl⟩ rfl rfl (Nat.le_of_ble_eq_true rfl) dX6_looksAll_31 ⟨Nat.zero_le _, Nat.zero_le _⟩ ?_
              refine lv_istore (lv' := [(6, .int y31), (0, .ref (a 99)), (1, .int x1), (2, .int z4.1), (3, .int z4.2), (4, .int z18.1), (5, .int z18.2)]) hx hb dX6_looksAll_34 hl7 (by decide) rfl (fun ls15 hl15 => ?_)
              clear hl7
              refine lv_iload hx hb dX6_looksAll_36 (lv_at hl15 5 rfl) ?_
              refine lv_if_ne (tgt := 73) hx hb dX6_looksAll_38 (by decide) (fun c38 => ?_) (fun c38 => ?_)
              · replace hm := tn hm c38
                refine lv_iconst (v := (1 : Int32)) hx hb dX6_looksAll_73 (by decide) ?_
                refine lv_goto (tgt := 78) hx hb dX6_looksAll_74 (by decide) ?_
                refine lv_istore (lv' := [(4, .int (1 : Int32)), (6, .int y31), (0, .ref (a 99)), (1, .int x1), (2, .int z4.1), (3, .int z4.2), (5, .int z18.2)]) hx hb dX6_looksAll_78 hl15 (by decide) rfl (fun ls25 hl25 => ?_)
                clear hl15
                refine lv_iinc (v := (z18.2 + (1 : Int32))) (lv' := [(5, .int (z18.2 + (1 : Int32))), (4, .int (1 : Int32)), (6, .int y31), (0, .ref (a 99)), (1, .int x1), (2, .int z4.1), (3, .int z4.2)]) hx hb dX6_looksAll_80 hl25 (k := 6) rfl rfl (by decide) rfl (fun ls26 hl26 => ?_)
                clear hl25
                refine lv_goto (tgt := 18) hx hb dX6_looksAll_83 (by decide) ?_
                cases hm
                exact ih18 ((1 : Int32), (z18.2 + (1 : Int32))) ρ18 hz18 hK18 _ (lv_sub hl26 [3, 4, 5, 6, 1, 0] rfl)
              · replace hm := tp hm c38
                refine lv_iload_n hx hb dX6_looksAll_41 rfl (lv_at hl15 2 rfl) ?_
                refine lv_iload hx hb dX6_looksAll_42 (lv_at hl15 6 rfl) ?_
                refine lv_ishr hx hb dX6_looksAll_44 ?_
                refine lv_iconst (v := (1 : Int32)) hx hb dX6_looksAll_45 (by decide) ?_
                refine lv_iand hx hb dX6_looksAll_46 ?_
                refine lv_iconst (v := (1 : Int32)) hx hb dX6_looksAll_47 (by decide) ?_
                refine lv_icmp_ne (tgt := 77) hx hb dX6_looksAll_48 (by decide) (fun c48 => ?_) (fun c48 => ?_)
                · replace hm := tn hm c48
                  refine lv_iconst (v := (0 : Int32)) hx hb dX6_looksAll_77 (by decide) ?_
                  refine lv_istore (lv' := [(4, .int (0 : Int32)), (6, .int y31), (0, .ref (a 99)), (1, .int x1), (2, .int z4.1), (3, .int z4.2), (5, .int z18.2)]) hx hb dX6_looksAll_78 hl15 (by decide) rfl (fun ls23 hl23 => ?_)
                  clear hl15
                  refine lv_iinc (v := (z18.2 + (1 : Int32))) (lv' := [(5, .int (z18.2 + (1 : Int32))), (4, .int (0 : Int32)), (6, .int y31), (0, .ref (a 99)), (1, .int x1), (2, .int z4.1), (3, .int z4.2)]) hx hb dX6_looksAll_80 hl23 (k := 6) rfl rfl (by decide) rfl (fun ls24 hl24 => ?_)
                  clear hl23
                  refine lv_goto (tgt := 18) hx hb dX6_looksAll_83 (by decide) ?_
                  cases hm
                  exact ih18 ((0 : Int32), (z18.2 + (1 : Int32))) ρ18 hz18 hK18 _ (lv_sub hl24 [3, 4, 5, 6, 1, 0] rfl)
                · replace hm := tp hm c48
                  refine lv_iload hx hb dX6_looksAll_51 (lv_at hl15 0 rfl) ?_
                  refine lv_bipush (v := (-4 : Int32)) hx hb dX6_looksAll_53 (by decide) ?_
                  refine lv_icmp_eq (tgt := 77) hx hb dX6_looksAll_55 (by decide) (fun c55 => ?_) (fun c55 => ?_)
                  · replace hm := tp hm c55
                    refine lv_iconst (v := (0 : Int32)) hx hb dX6_looksAll_77 (by decide) ?_
                    refine lv_istore (lv' := [(4, .int (0 : Int32)), (6, .int y31), (0, .ref (a 99)), (1, .int x1), (2, .int z4.1), (3, .int z4.2), (5, .int z18.2)]) hx hb dX6_looksAll_78 hl15 (by decide) rfl (fun ls16 hl16 => ?_)
                    clear hl15
                    refine lv_iinc (v := (z18.2 + (1 : Int32))) (lv' := [(5, .int (z18.2 + (1 : Int32))), (4, .int (0 : Int32)), (6, .int y31), (0, .ref (a 99)), (1, .int x1), (2, .int z4.1), (3, .int z4.2)]) hx hb dX6_looksAll_80 hl16 (k := 6) rfl rfl (by decide) rfl (fun ls17 hl17 => ?_)
                    clear hl16
                    refine lv_goto (tgt := 18) hx hb dX6_looksAll_83 (by decide) ?_
                    cases hm
                    exact ih18 ((0 : Int32), (z18.2 + (1 : Int32))) ρ18 hz18 hK18 _ (lv_sub hl17 [3, 4, 5, 6, 1, 0] rfl)
                  · replace hm := tn hm c55
                    refine lv_aload_n hx hb dX6_looksAll_58 rfl (lv_at hl15 1 rfl) ?_
                    refine va_get (D := D) (ci := 6) (v := .ref (a 5)) (C := RX6) (T := TX6) (N := 40) hx hb hW iX6 hown hK hP0 0 rfl rfl 5 (by decide) (hW _ k_872) (fun _ h => h) rfl dX6_looksAll_59 ?_
                    refine lv_iload_n hx hb dX6_looksAll_62 rfl (lv_at hl15 4 rfl) ?_
                    obtain ⟨h18, hm⟩ := ckd hm
                    refine va_iald (f := (v 5)) hx hb hK hP0 3 0 rfl rfl (inB_vp h18) dX6_looksAll_63 ?_
                    refine lv_iload hx hb dX6_looksAll_64 (lv_at hl15 0 rfl) ?_
                    refine lv_ishr hx hb dX6_looksAll_66 ?_
                    refine lv_iconst (v := (1 : Int32)) hx hb dX6_looksAll_67 (by decide) ?_
                    refine lv_iand hx hb dX6_looksAll_68 ?_
                    refine lv_iconst (v := (1 : Int32)) hx hb dX6_looksAll_69 (by decide) ?_
                    refine lv_icmp_ne (tgt := 77) hx hb dX6_looksAll_70 (by decide) (fun c70 => ?_) (fun c70 => ?_)
                    · replace hm := tn hm c70
                      refine lv_iconst (v := (0 : Int32)) hx hb dX6_looksAll_77 (by decide) ?_
                      refine lv_istore (lv' := [(4, .int (0 : Int32)), (6, .int y31), (0, .ref (a 99)), (1, .int x1), (2, .int z4.1), (3, .int z4.2), (5, .int z18.2)]) hx hb dX6_looksAll_78 hl15 (by decide) rfl (fun ls21 hl21 => ?_)
                      clear hl15
                      refine lv_iinc (v := (z18.2 + (1 : Int32))) (lv' := [(5, .int (z18.2 + (1 : Int32))), (4, .int (0 : Int32)), (6, .int y31), (0, .ref (a 99)), (1, .int x1), (2, .int z4.1), (3, .int z4.2)]) hx hb dX6_looksAll_80 hl21 (k := 6) rfl rfl (by decide) rfl (fun ls22 hl22 => ?_)
                      clear hl21
                      refine lv_goto (tgt := 18) hx hb dX6_looksAll_83 (by decide) ?_
                      cases hm
                      exact ih18 ((0 : Int32), (z18.2 + (1 : Int32))) ρ18 hz18 hK18 _ (lv_sub hl22 [3, 4, 5, 6, 1, 0] rfl)
                    · replace hm := tp hm c70
                      refine lv_iconst (v := (1 : Int32)) hx hb dX6_looksAll_73 (by decide) ?_
                      refine lv_goto (tgt := 78) hx hb dX6_looksAll_74 (by decide) ?_
                      refine lv_istore (lv' := [(4, .int (1 : Int32)), (6, .int y31), (0, .ref (a 99)), (1, .int x1), (2, .int z4.1), (3, .int z4.2), (5, .int z18.2)]) hx hb dX6_looksAll_78 hl15 (by decide) rfl (fun ls19 hl19 => ?_)
                      clear hl15
                      refine lv_iinc (v := (z18.2 + (1 : Int32))) (lv' := [(5, .int (z18.2 + (1 : Int32))), (4, .int (1 : Int32)), (6, .int y31), (0, .ref (a 99)), (1, .int x1), (2, .int z4.1), (3, .int z4.2)]) hx hb dX6_looksAll_80 hl19 (k := 6) rfl rfl (by decide) rfl (fun ls20 hl20 => ?_)
                      clear hl19
                      refine lv_goto (tgt := 18) hx hb dX6_looksAll_83 (by decide) ?_
                      cases hm
                      exact ih18 ((1 : Int32), (z18.2 + (1 : Int32))) ρ18 hz18 hK18 _ (lv_sub hl20 [3, 4, 5, 6, 1, 0] rfl)
        exact hL18 n18 ((0 : Int32), (0 : Int32)) r18 hn18 hm _ (lv_sub hl6 [2, 3, 4, 5, 1, 0] rfl)
  exact hL4 n4 ((1 : Int32), (0 : Int32)) r4 hn4 hm _ (lv_sub hl2 [2, 3, 1, 0] rfl)
noncomputable def m_X6_looks_K24 (x1 : Int32) (z24 : Int32 × Int32) : Option (Int32) :=
  (if z24.1 = (-4 : Int32) then some z24.1 else (if x1 = (1 : Int32) then some z24.1 else (m_X6_bitsOf z24.1).bind (fun y77 => some y77)))
noncomputable def m_X6_looks_L24 (v : SV) (z24 : Int32 × Int32) : Option ((Int32 × Int32) ⊕ (Int32 × Int32)) :=
  (if z24.2 < 0 then some (.inr (z24.1, z24.2)) else (m_X6_looksAll v z24.2).bind (fun y30 => (if y30 = 0 then some (.inl (z24.1, (z24.2 + (-1 : Int32)))) else (if z24.1 = (-4 : Int32) then some (.inl (z24.2, (z24.2 + (-1 : Int32)))) else (m_X6_bitsOf z24.2).bind (fun y43 => (m_X6_bitsOf z24.1).bind (fun y47 => (if y47 < y43 then some (.inl (z24.1, (z24.2 + (-1 : Int32)))) else some (.inl (z24.2, (z24.2 + (-1 : Int32)))))))))))
noncomputable def m_X6_looks (v : SV) (x1 : Int32) : Option (Int32) :=
  (m_X6_in (x1.toInt64) (0 : Int64) (1 : Int64)).bind (fun y4 => (if y4 = 0 then some (-1 : Int32) else (lpC (m_X6_looks_L24 v) ((-4 : Int32), (((1 : Int32) <<< ((v 0 1) &&& 31)) - (1 : Int32)))).bind (m_X6_looks_K24 x1)))
set_option maxHeartbeats 4000000 in
set_option maxRecDepth 100000 in
theorem c_X6_looks (l : Launch) (D : va_G) (q : Nat → ClassId) (a : Nat → Nat) (v : SV) (x1 : Int32) (res : Int32) (hm : m_X6_looks v x1 = some res) : Met l yX6_looks (mw yX6_looks cX6_looks 4 (some .int)) ({ frames := 2, cells := 0, slots := 0, locals := 49 } : Room) (pcR D q (wX6 q a v) [.ref (a 99), .int x1]) (vp_Si (fun x => x = res)) 0 0 (fun _ => False) := by
  refine Met.ofW (cc := cX6_looks) (maxL := 4) (ret := (some .int)) (by decide) rfl ?_
  intro p e s m args below meth c s₁ B hml hv
  obtain ⟨rfl, hP0, hK⟩ := hv
  have hx := B.exec
  have hb := B.bytes
  have hr := B.returns
  have hW := mw_ws (atoms_spec (ws := mw yX6_looks cX6_looks 4 (some .int)) B.pre)
  have hown : s.vm.findClass RX6 = some m.cls := findClass_of_methodNamed B.named
  have hlocks := B.notSynchronized
  have X : Cx p s m [.ref (a 99), .int x1].toArray c cX6_looks 4 RX6 D q := ⟨hx, hb, hml, hown, hW, hK⟩
  have hl0 := lv_entry ([.ref (a 99), .int x1]) (n := 4) (Nat.le_of_ble_eq_true rfl)
  rw [lg_entry_eq]
  generalize (lg_sl ([.ref (a 99), .int x1]) ++ List.replicate (4 - (lg_sl ([.ref (a 99), .int x1])).length) Slot.unset).toArray = ls0 at hl0 ⊢
  have hl0 : lv_has ls0 4 [(0, .ref (a 99)), (1, .int x1)] := hl0
  unfold m_X6_looks at hm
  refine lv_iload_n hx hb dX6_looks_0 rfl (lv_at hl0 1 rfl) ?_
  refine lv_i2l hx hb dX6_looks_1 rfl ?_
  refine lv_lconst (v := (0 : Int64)) hx hb dX6_looks_2 (by decide) ?_
  refine lv_lconst (v := (1 : Int64)) hx hb dX6_looks_3 (by decide) ?_
  obtain ⟨y4, hy4, hm⟩ := bn hm
  refine cSRi (As := [.long (x1.toInt64), .long (0 : Int64), .long (1 : Int64)]) (rest := []) X hP0 hl0.1 (c_X6_in l D q (x1.toInt64) (0 : Int64) (1 : Int64) y4 hy4) [] rfl k_993 mX6_in ⟨rfl, rfl⟩ ⟨Nat.le_of_ble_eq_true rfl, Nat.le_of_ble_eq_true rfl⟩ rfl rfl (Nat.le_of_ble_eq_true rfl) dX6_looks_4 ⟨Nat.zero_le _, Nat.zero_le _⟩ ?_
  refine lv_if_ne (tgt := 12) hx hb dX6_looks_7 (by decide) (fun c7 => ?_) (fun c7 => ?_)
  · replace hm := tn hm c7
    refine lv_bipush (v := (-4 : Int32)) hx hb dX6_looks_12 (by decide) ?_
    refine lv_istore_n (lv' := [(2, .int (-4 : Int32)), (0, .ref (a 99)), (1, .int x1)]) hx hb dX6_looks_14 rfl hl0 (by decide) rfl (fun ls1 hl1 => ?_)
    clear hl0
    refine lv_iconst (v := (1 : Int32)) hx hb dX6_looks_15 (by decide) ?_
    refine lv_aload_n hx hb dX6_looks_16 rfl (lv_at hl1 1 rfl) ?_
    refine va_get (D := D) (ci := 6) (v := .int (v 0 1)) (C := RX6) (T := TX6) (N := 40) hx hb hW iX6 hown hK hP0 0 rfl rfl 1 (by decide) (hW _ k_868) (fun _ h => h) rfl dX6_looks_17 ?_
    refine lv_ishl hx hb dX6_looks_20 ?_
    refine lv_iconst (v := (1 : Int32)) hx hb dX6_looks_21 (by decide) ?_
    refine lv_isub hx hb dX6_looks_22 ?_
    refine lv_istore_n (lv' := [(3, .int (((1 : Int32) <<< ((v 0 1) &&& 31)) - (1 : Int32))), (2, .int (-4 : Int32)), (0, .ref (a 99)), (1, .int x1)]) hx hb dX6_looks_23 rfl hl1 (by decide) rfl (fun ls2 hl2 => ?_)
    clear hl1
    obtain ⟨r24, hr24, hm⟩ := bn hm
    obtain ⟨n24, hn24⟩ := lpC_ex hr24
    have hE24 : ∀ z24 : Int32 × Int32, m_X6_looks_K24 x1 z24 = some res → ∀ ls : Array Slot, lv_has ls 4 [(1, .int x1), (2, .int z24.1)] → W p l e ((headSpec (mw yX6_looks cX6_looks 4 (some .int)) ({ frames := 2, cells := 0, slots := 0, locals := 49 } : Room)).room) s m [.ref (a 99), .int x1].toArray below meth c s.heap [] 0 0 (MQ below (vp_Si (fun x => x = res)) [.ref (a 99), .int x1].toArray s 0 0 (fun _ => False)) (F0 m 61 ls []) := by
      intro z24 hm ls4 hl4
      unfold m_X6_looks_K24 at hm
      refine lv_iload_n hx hb dX6_looks_61 rfl (lv_at hl4 1 rfl) ?_
      refine lv_bipush (v := (-4 : Int32)) hx hb dX6_looks_62 (by decide) ?_
      refine lv_icmp_eq (tgt := 72) hx hb dX6_looks_64 (by decide) (fun c64 => ?_) (fun c64 => ?_)
      · replace hm := tp hm c64
        refine lv_iload_n hx hb dX6_looks_72 rfl (lv_at hl4 1 rfl) ?_
        refine lv_goto (tgt := 80) hx hb dX6_looks_73 (by decide) ?_
        exact eRi  X hr hlocks hm dX6_looks_80
      · replace hm := tn hm c64
        refine lv_iload_n hx hb dX6_looks_67 rfl (lv_at hl4 0 rfl) ?_
        refine lv_iconst (v := (1 : Int32)) hx hb dX6_looks_68 (by decide) ?_
        refine lv_icmp_ne (tgt := 76) hx hb dX6_looks_69 (by decide) (fun c69 => ?_) (fun c69 => ?_)
        · replace hm := tn hm c69
          refine lv_iload_n hx hb dX6_looks_76 rfl (lv_at hl4 1 rfl) ?_
          obtain ⟨y77, hy77, hm⟩ := bn hm
          refine cSRi (As := [.int z24.1]) (rest := []) X hP0 hl4.1 (c_X6_bitsOf l D q z24.1 y77 hy77) [] rfl k_1241 mX6_bitsOf ⟨rfl, rfl⟩ ⟨Nat.le_of_ble_eq_true rfl, Nat.le_of_ble_eq_true rfl⟩ rfl rfl (Nat.le_of_ble_eq_true rfl) dX6_looks_77 ⟨Nat.zero_le _, Nat.zero_le _⟩ ?_
          exact eRi  X hr hlocks hm dX6_looks_80
        · replace hm := tp hm c69
          refine lv_iload_n hx hb dX6_looks_72 rfl (lv_at hl4 1 rfl) ?_
          refine lv_goto (tgt := 80) hx hb dX6_looks_73 (by decide) ?_
          exact eRi  X hr hlocks hm dX6_looks_80
    have hL24 : ∀ (n : Nat) (z24 : Int32 × Int32) (ρ24 : Int32 × Int32), lpO (m_X6_looks_L24 v) n z24 = some ρ24 → (m_X6_looks_K24 x1) ρ24 = some res → ∀ ls : Array Slot, lv_has ls 4 [(0, .ref (a 99)), (1, .int x1), (2, .int z24.1), (3, .int z24.2)] → W p l e ((headSpec (mw yX6_looks cX6_looks 4 (some .int)) ({ frames := 2, cells := 0, slots := 0, locals := 49 } : Room)).room) s m [.ref (a 99), .int x1].toArray below meth c s.heap [] 0 0 (MQ below (vp_Si (fun x => x = res)) [.ref (a 99), .int x1].toArray s 0 0 (fun _ => False)) (F0 m 24 ls []) := by
      intro n
      induction n with
      | zero => intro _ _ h; cases h
      | succ n ih24 =>
        intro z24 ρ24 hz24 hK24 ls3 hl3
        obtain ⟨t24, hm, hz24⟩ := bn hz24
        unfold m_X6_looks_L24 at hm
        refine lv_iload_n hx hb dX6_looks_24 rfl (lv_at hl3 3 rfl) ?_
        refine lv_if_lt (tgt := 61) hx hb dX6_looks_25 (by decide) (fun c25 => ?_) (fun c25 => ?_)
        · replace hm := tp hm c25
          cases hm
          cases hz24
          exact hE24 (z24.1, z24.2) hK24 _ (lv_sub hl3 [1, 2] rfl)
        · replace hm := tn hm c25
          refine lv_aload_n hx hb dX6_looks_28 rfl (lv_at hl3 0 rfl) ?_
          refine lv_iload_n hx hb dX6_looks_29 rfl (lv_at hl3 3 rfl) ?_
          obtain ⟨y30, hy30, hm⟩ := bn hm
          refine cVRi (As := [.int z24.2]) (rest := []) X hP0 hl3.1 (c_X6_looksAll l D q a v z24.2 y30 hy30) [0, 1, 2, 3, 4, 5, 6, 7, 8, 9, 10, 11, 12, 13, 14, 15, 16, 17] rfl 0 rfl rfl rfl k_1254 mX6_looksAll ⟨rfl, rfl⟩ ⟨Nat.le_of_ble_eq_true rfl, Nat.le_of_ble_eq_true rfl⟩ rfl rfl (Nat.le_of_ble_eq_true rfl) dX6_looks_30 ⟨Nat.zero_le _, Nat.zero_le _⟩ ?_
          refine lv_if_eq (tgt := 55) hx hb dX6_looks_33 (by decide) (fun c33 => ?_) (fun c33 => ?_)
          · replace hm := tp hm c33
            refine lv_iinc (v := (z24.2 + (-1 : Int32))) (lv' := [(3, .int (z24.2 + (-1 : Int32))), (0, .ref (a 99)), (1, .int x1), (2, .int z24.1)]) hx hb dX6_looks_55 hl3 (k := 3) rfl rfl (by decide) rfl (fun ls5 hl5 => ?_)
            clear hl3
            refine lv_goto (tgt := 24) hx hb dX6_looks_58 (by decide) ?_
            cases hm
            exact ih24 (z24.1, (z24.2 + (-1 : Int32))) ρ24 hz24 hK24 _ (lv_sub hl5 [1, 2, 3, 0] rfl)
          · replace hm := tn hm c33
            refine lv_iload_n hx hb dX6_looks_36 rfl (lv_at hl3 2 rfl) ?_
            refine lv_bipush (v := (-4 : Int32)) hx hb dX6_looks_37 (by decide) ?_
            refine lv_icmp_eq (tgt := 53) hx hb dX6_looks_39 (by decide) (fun c39 => ?_) (fun c39 => ?_)
            · replace hm := tp hm c39
              refine lv_iload_n hx hb dX6_looks_53 rfl (lv_at hl3 3 rfl) ?_
              refine lv_istore_n (lv' := [(2, .int z24.2), (0, .ref (a 99)), (1, .int x1), (3, .int z24.2)]) hx hb dX6_looks_54 rfl hl3 (by decide) rfl (fun ls6 hl6 => ?_)
              clear hl3
              refine lv_iinc (v := (z24.2 + (-1 : Int32))) (lv' := [(3, .int (z24.2 + (-1 : Int32))), (2, .int z24.2), (0, .ref (a 99)), (1, .int x1)]) hx hb dX6_looks_55 hl6 (k := 3) rfl rfl (by decide) rfl (fun ls7 hl7 => ?_)
              clear hl6
              refine lv_goto (tgt := 24) hx hb dX6_looks_58 (by decide) ?_
              cases hm
              exact ih24 (z24.2, (z24.2 + (-1 : Int32))) ρ24 hz24 hK24 _ (lv_sub hl7 [2, 3, 1, 0] rfl)
            · replace hm := tn hm c39
              refine lv_iload_n hx hb dX6_looks_42 rfl (lv_at hl3 3 rfl) ?_
              obtain ⟨y43, hy43, hm⟩ := bn hm
              refine cSRi (As := [.int z24.2]) (rest := []) X hP0 hl3.1 (c_X6_bitsOf l D q z24.2 y43 hy43) [] rfl k_1241 mX6_bitsOf ⟨rfl, rfl⟩ ⟨Nat.le_of_ble_eq_true rfl, Nat.le_of_ble_eq_true rfl⟩ rfl rfl (Nat.le_of_ble_eq_true rfl) dX6_looks_43 ⟨Nat.zero_le _, Nat.zero_le _⟩ ?_
              refine lv_iload_n hx hb dX6_looks_46 rfl (lv_at hl3 2 rfl) ?_
              obtain ⟨y47, hy47, hm⟩ := bn hm
              refine cSRi (As := [.int z24.1]) (rest := [.int y43]) X hP0 hl3.1 (c_X6_bitsOf l D q z24.1 y47 hy47) [] rfl k_1241 mX6_bitsOf ⟨rfl, rfl⟩ ⟨Nat.le_of_ble_eq_true rfl, Nat.le_of_ble_eq_true rfl⟩ rfl rfl (Nat.le_of_ble_eq_true rfl) dX6_looks_47 ⟨Nat.zero_le _, Nat.zero_le _⟩ ?_
              refine lv_icmp_gt (tgt := 55) hx hb dX6_looks_50 (by decide) (fun c50 => ?_) (fun c50 => ?_)
              · replace hm := tp hm c50
                refine lv_iinc (v := (z24.2 + (-1 : Int32))) (lv' := [(3, .int (z24.2 + (-1 : Int32))), (0, .ref (a 99)), (1, .int x1), (2, .int z24.1)]) hx hb dX6_looks_55 hl3 (k := 3) rfl rfl (by decide) rfl (fun ls8 hl8 => ?_)
                clear hl3
                refine lv_goto (tgt := 24) hx hb dX6_looks_58 (by decide) ?_
                cases hm
                exact ih24 (z24.1, (z24.2 + (-1 : Int32))) ρ24 hz24 hK24 _ (lv_sub hl8 [1, 2, 3, 0] rfl)
              · replace hm := tn hm c50
                refine lv_iload_n hx hb dX6_looks_53 rfl (lv_at hl3 3 rfl) ?_
                refine lv_istore_n (lv' := [(2, .int z24.2), (0, .ref (a 99)), (1, .int x1), (3, .int z24.2)]) hx hb dX6_looks_54 rfl hl3 (by decide) rfl (fun ls9 hl9 => ?_)
                clear hl3
                refine lv_iinc (v := (z24.2 + (-1 : Int32))) (lv' := [(3, .int (z24.2 + (-1 : Int32))), (2, .int z24.2), (0, .ref (a 99)), (1, .int x1)]) hx hb dX6_looks_55 hl9 (k := 3) rfl rfl (by decide) rfl (fun ls10 hl10 => ?_)
                clear hl9
                refine lv_goto (tgt := 24) hx hb dX6_looks_58 (by decide) ?_
                cases hm
                exact ih24 (z24.2, (z24.2 + (-1 : Int32))) ρ24 hz24 hK24 _ (lv_sub hl10 [2, 3, 1, 0] rfl)
    exact hL24 n24 ((-4 : Int32), (((1 : Int32) <<< ((v 0 1) &&& 31)) - (1 : Int32))) r24 hn24 hm _ (lv_sub hl2 [2, 3, 1, 0] rfl)
  · replace hm := tp hm c7
    refine lv_iconst (v := (-1 : Int32)) hx hb dX6_looks_10 (by decide) ?_
    exact eRi  X hr hlocks hm dX6_looks_11
noncomputable def m_X6_byLife_K61 (x3 : Int32) (z12 : Int32 × Int64 × Int32) (z61 : Int64 × Int32) : Option (Int64) :=
  (m_X6_lowest z61.1 z12.2.1 x3).bind (fun y168 => some y168)
noncomputable def m_X6_byLife_K78 (v : SV) (x2 : Int32) (z12 : Int32 × Int64 × Int32) (z61 : Int64 × Int32) (z78 : Int64 × Int32) : Option ((Int64 × Int32) ⊕ (Int64 × Int32)) :=
  (if x2 = 0 then (if (z12.1 &&& (z61.2 ^^^ (-1 : Int32))) = 0 then some (.inl ((z61.1 + (z78.1 * ((1 : Int32).toInt64))), (z61.2 + (1 : Int32)))) else some (.inl ((z61.1 + (z78.1 * ((0 : Int32).toInt64))), (z61.2 + (1 : Int32))))) else (m_X6_valueOn v (0 : Int32) z61.2).bind (fun y131 => some (.inl ((z61.1 + (z78.1 * (y131.toInt64))), (z61.2 + (1 : Int32))))))
noncomputable def m_X6_byLife_L78 (v : SV) (x1 : Int32) (z61 : Int64 × Int32) (z78 : Int64 × Int32) : Option ((Int64 × Int32) ⊕ (Int64 × Int32)) :=
  (if (v 0 2) ≤ z78.2 then some (.inr (z78.1, z78.2)) else (if ((z61.2 >>> (z78.2 &&& 31)) &&& (1 : Int32)) = (1 : Int32) then some (.inl ((z78.1 * (((10 : Int32) - x1).toInt64)), (z78.2 + (1 : Int32)))) else some (.inl ((z78.1 * (x1.toInt64)), (z78.2 + (1 : Int32))))))
noncomputable def m_X6_byLife_L61 (v : SV) (x1 : Int32) (x2 : Int32) (z12 : Int32 × Int64 × Int32) (z61 : Int64 × Int32) : Option ((Int64 × Int32) ⊕ (Int64 × Int32)) :=
  (if ((1 : Int32) <<< ((v 0 2) &&& 31)) ≤ z61.2 then some (.inr (z61.1, z61.2)) else (lpC (m_X6_byLife_L78 v x1 z61) ((1 : Int64), (0 : Int32))).bind (m_X6_byLife_K78 v x2 z12 z61))
noncomputable def m_X6_byLife_K12 (v : SV) (x1 : Int32) (x2 : Int32) (x3 : Int32) (z12 : Int32 × Int64 × Int32) : Option (Int64) :=
  (lpC (m_X6_byLife_L61 v x1 x2 z12) ((0 : Int64), (0 : Int32))).bind (m_X6_byLife_K61 x3 z12)
noncomputable def m_X6_byLife_L12 (v : SV) (z12 : Int32 × Int64 × Int32) : Option ((Int32 × Int64 × Int32) ⊕ (Int32 × Int64 × Int32)) :=
  (if (v 0 2) ≤ z12.2.2 then some (.inr (z12.1, z12.2.1, z12.2.2)) else (m_X6_shownOn v (0 : Int32) z12.2.2).bind (fun y27 => (if y27 = 0 then some (.inl ((z12.1 ||| (0 : Int32)), (z12.2.1 * (10 : Int64)), (z12.2.2 + (1 : Int32)))) else some (.inl ((z12.1 ||| ((1 : Int32) <<< (z12.2.2 &&& 31))), (z12.2.1 * (10 : Int64)), (z12.2.2 + (1 : Int32)))))))
noncomputable def m_X6_byLife (v : SV) (x1 : Int32) (x2 : Int32) (x3 : Int32) : Option (Int64) :=
  (lpC (m_X6_byLife_L12 v) ((0 : Int32), (1 : Int64), (0 : Int32))).bind (m_X6_byLife_K12 v x1 x2 x3)
set_option maxHeartbeats 4000000 in
set_option maxRecDepth 100000 in
theorem c_X6_byLife (l : Launch) (D : va_G) (q : Nat → ClassId) (a : Nat → Nat) (v : SV) (x1 : Int32) (x2 : Int32) (x3 : Int32) (res : Int64) (hm : m_X6_byLife v x1 x2 x3 = some res) : Met l yX6_byLife (mw yX6_byLife cX6_byLife 13 (some .long)) ({ frames := 5, cells := 0, slots := 0, locals := 122 } : Room) (pcR D q (wX6 q a v) [.ref (a 99), .int x1, .int x2, .int x3]) (vp_Sl (fun x => x = res)) 0 0 (fun _ => False) := by
  refine Met.ofW (cc := cX6_byLife) (maxL := 13) (ret := (some .long)) (by decide) rfl ?_
  intro p e s m args below meth c s₁ B hml hv
  obtain ⟨rfl, hP0, hK⟩ := hv
  have hx := B.exec
  have hb := B.bytes
  have hr := B.returns
  have hW := mw_ws (atoms_spec (ws := mw yX6_byLife cX6_byLife 13 (some .long)) B.pre)
  have hown : s.vm.findClass RX6 = some m.cls := findClass_of_methodNamed B.named
  have hlocks := B.notSynchronized
  have X : Cx p s m [.ref (a 99), .int x1, .int x2, .int x3].toArray c cX6_byLife 13 RX6 D q := ⟨hx, hb, hml, hown, hW, hK⟩
  have hl0 := lv_entry ([.ref (a 99), .int x1, .int x2, .int x3]) (n := 13) (Nat.le_of_ble_eq_true rfl)
  rw [lg_entry_eq]
  generalize (lg_sl ([.ref (a 99), .int x1, .int x2, .int x3]) ++ List.replicate (13 - (lg_sl ([.ref (a 99), .int x1, .int x2, .int x3])).length) Slot.unset).toArray = ls0 at hl0 ⊢
  have hl0 : lv_has ls0 13 [(0, .ref (a 99)), (1, .int x1), (2, .int x2), (3, .int x3)] := hl0
  unfold m_X6_byLife at hm
  refine lv_iconst (v := (0 : Int32)) hx hb dX6_byLife_0 (by decide) ?_
  refine lv_istore (lv' := [(4, .int (0 : Int32)), (0, .ref (a 99)), (1, .int x1), (2, .int x2), (3, .int x3)]) hx hb dX6_byLife_1 hl0 (by decide) rfl (fun ls1 hl1 => ?_)
  clear hl0
  refine lv_lconst (v := (0 : Int64)) hx hb dX6_byLife_3 (by decide) ?_
  refine lv_lstore (lv' := [(5, .long (0 : Int64)), (4, .int (0 : Int32)), (0, .ref (a 99)), (1, .int x1), (2, .int x2), (3, .int x3)]) hx hb dX6_byLife_4 hl1 (by decide) rfl (fun ls2 hl2 => ?_)
  clear hl1
  refine lv_lconst (v := (1 : Int64)) hx hb dX6_byLife_6 (by decide) ?_
  refine lv_lstore (lv' := [(7, .long (1 : Int64)), (5, .long (0 : Int64)), (4, .int (0 : Int32)), (0, .ref (a 99)), (1, .int x1), (2, .int x2), (3, .int x3)]) hx hb dX6_byLife_7 hl2 (by decide) rfl (fun ls3 hl3 => ?_)
  clear hl2
  refine lv_iconst (v := (0 : Int32)) hx hb dX6_byLife_9 (by decide) ?_
  refine lv_istore (lv' := [(9, .int (0 : Int32)), (7, .long (1 : Int64)), (5, .long (0 : Int64)), (4, .int (0 : Int32)), (0, .ref (a 99)), (1, .int x1), (2, .int x2), (3, .int x3)]) hx hb dX6_byLife_10 hl3 (by decide) rfl (fun ls4 hl4 => ?_)
  clear hl3
  obtain ⟨r12, hr12, hm⟩ := bn hm
  obtain ⟨n12, hn12⟩ := lpC_ex hr12
  have hE12 : ∀ z12 : Int32 × Int64 × Int32, m_X6_byLife_K12 v x1 x2 x3 z12 = some res → ∀ ls : Array Slot, lv_has ls 13 [(5, .long (0 : Int64)), (0, .ref (a 99)), (1, .int x1), (2, .int x2), (3, .int x3), (4, .int z12.1), (7, .long z12.2.1)] → W p l e ((headSpec (mw yX6_byLife cX6_byLife 13 (some .long)) ({ frames := 5, cells := 0, slots := 0, locals := 122 } : Room)).room) s m [.ref (a 99), .int x1, .int x2, .int x3].toArray below meth c s.heap [] 0 0 (MQ below (vp_Sl (fun x => x = res)) [.ref (a 99), .int x1, .int x2, .int x3].toArray s 0 0 (fun _ => False)) (F0 m 58 ls []) := by
    intro z12 hm ls6 hl6
    unfold m_X6_byLife_K12 at hm
    refine lv_iconst (v := (0 : Int32)) hx hb dX6_byLife_58 (by decide) ?_
    refine lv_istore (lv' := [(9, .int (0 : Int32)), (5, .long (0 : Int64)), (0, .ref (a 99)), (1, .int x1), (2, .int x2), (3, .int x3), (4, .int z12.1), (7, .long z12.2.1)]) hx hb dX6_byLife_59 hl6 (by decide) rfl (fun ls7 hl7 => ?_)
    clear hl6
    obtain ⟨r61, hr61, hm⟩ := bn hm
    obtain ⟨n61, hn61⟩ := lpC_ex hr61
    have hE61 : ∀ z61 : Int64 × Int32, m_X6_byLife_K61 x3 z12 z61 = some res → ∀ ls : Array Slot, lv_has ls 13 [(3, .int x3), (7, .long z12.2.1), (5, .long z61.1)] → W p l e ((headSpec (mw yX6_byLife cX6_byLife 13 (some .long)) ({ frames := 5, cells := 0, slots := 0, locals := 122 } : Room)).room) s m [.ref (a 99), .int x1, .int x2, .int x3].toArray below meth c s.heap [] 0 0 (MQ below (vp_Sl (fun x => x = res)) [.ref (a 99), .int x1, .int x2, .int x3].toArray s 0 0 (fun _ => False)) (F0 m 163 ls []) := by
      intro z61 hm ls9 hl9
      unfold m_X6_byLife_K61 at hm
      refine lv_lload hx hb dX6_byLife_163 (lv_at hl9 2 rfl) ?_
      refine lv_lload hx hb dX6_byLife_165 (lv_at hl9 1 rfl) ?_
      refine lv_iload_n hx hb dX6_byLife_167 rfl (lv_at hl9 0 rfl) ?_
      obtain ⟨y168, hy168, hm⟩ := bn hm
      refine cSRl (As := [.long z61.1, .long z12.2.1, .int x3]) (rest := []) X hP0 hl9.1 (c_X6_lowest l D q z61.1 z12.2.1 x3 y168 hy168) [] rfl k_1247 mX6_lowest ⟨rfl, rfl⟩ ⟨Nat.le_of_ble_eq_true rfl, Nat.le_of_ble_eq_true rfl⟩ rfl rfl (Nat.le_of_ble_eq_true rfl) dX6_byLife_168 ⟨Nat.zero_le _, Nat.zero_le _⟩ ?_
      exact eRl  X hr hlocks hm dX6_byLife_171
    have hL61 : ∀ (n : Nat) (z61 : Int64 × Int32) (ρ61 : Int64 × Int32), lpO (m_X6_byLife_L61 v x1 x2 z12) n z61 = some ρ61 → (m_X6_byLife_K61 x3 z12) ρ61 = some res → ∀ ls : Array Slot, lv_has ls 13 [(0, .ref (a 99)), (1, .int x1), (2, .int x2), (3, .int x3), (4, .int z12.1), (7, .long z12.2.1), (5, .long z61.1), (9, .int z61.2)] → W p l e ((headSpec (mw yX6_byLife cX6_byLife 13 (some .long)) ({ frames := 5, cells := 0, slots := 0, locals := 122 } : Room)).room) s m [.ref (a 99), .int x1, .int x2, .int x3].toArray below meth c s.heap [] 0 0 (MQ below (vp_Sl (fun x => x = res)) [.ref (a 99), .int x1, .int x2, .int x3].toArray s 0 0 (fun _ => False)) (F0 m 61 ls []) := by
      intro n
      induction n with
      | zero => intro _ _ h; cases h
      | succ n ih61 =>
        intro z61 ρ61 hz61 hK61 ls8 hl8
        obtain ⟨t61, hm, hz61⟩ := bn hz61
        unfold m_X6_byLife_L61 at hm
        refine lv_iload hx hb dX6_byLife_61 (lv_at hl8 7 rfl) ?_
        refine lv_iconst (v := (1 : Int32)) hx hb dX6_byLife_63 (by decide) ?_
        refine lv_aload_n hx hb dX6_byLife_64 rfl (lv_at hl8 0 rfl) ?_
        refine va_get (D := D) (ci := 6) (v := .int (v 0 2)) (C := RX6) (T := TX6) (N := 40) hx hb hW iX6 hown hK hP0 0 rfl rfl 2 (by decide) (hW _ k_869) (fun _ h => h) rfl dX6_byLife_65 ?_
        refine lv_ishl hx hb dX6_byLife_68 ?_
        refine lv_icmp_ge (tgt := 163) hx hb dX6_byLife_69 (by decide) (fun c69 => ?_) (fun c69 => ?_)
        · replace hm := tp hm c69
          cases hm
          cases hz61
          exact hE61 (z61.1, z61.2) hK61 _ (lv_sub hl8 [3, 5, 6] rfl)
        · replace hm := tn hm c69
          refine lv_lconst (v := (1 : Int64)) hx hb dX6_byLife_72 (by decide) ?_
          refine lv_lstore (lv' := [(10, .long (1 : Int64)), (0, .ref (a 99)), (1, .int x1), (2, .int x2), (3, .int x3), (4, .int z12.1), (7, .long z12.2.1), (5, .long z61.1), (9, .int z61.2)]) hx hb dX6_byLife_73 hl8 (by decide) rfl (fun ls10 hl10 => ?_)
          clear hl8
          refine lv_iconst (v := (0 : Int32)) hx hb dX6_byLife_75 (by decide) ?_
          refine lv_istore (lv' := [(12, .int (0 : Int32)), (10, .long (1 : Int64)), (0, .ref (a 99)), (1, .int x1), (2, .int x2), (3, .int x3), (4, .int z12.1), (7, .long z12.2.1), (5, .long z61.1), (9, .int z61.2)]) hx hb dX6_byLife_76 hl10 (by decide) rfl (fun ls11 hl11 => ?_)
          clear hl10
          obtain ⟨r78, hr78, hm⟩ := bn hm
          obtain ⟨n78, hn78⟩ := lpC_ex hr78
          have hE78 : ∀ z78 : Int64 × Int32, m_X6_byLife_K78 v x2 z12 z61 z78 = some t61 → ∀ ls : Array Slot, lv_has ls 13 [(0, .ref (a 99)), (1, .int x1), (2, .int x2), (3, .int x3), (4, .int z12.1), (7, .long z12.2.1), (5, .long z61.1), (9, .int z61.2), (10, .long z78.1)] → W p l e ((headSpec (mw yX6_byLife cX6_byLife 13 (some .long)) ({ frames := 5, cells := 0, slots := 0, locals := 122 } : Room)).room) s m [.ref (a 99), .int x1, .int x2, .int x3].toArray below meth c s.heap [] 0 0 (MQ below (vp_Sl (fun x => x = res)) [.ref (a 99), .int x1, .int x2, .int x3].toArray s 0 0 (fun _ => False)) (F0 m 119 ls []) := by
            intro z78 hm ls13 hl13
            unfold m_X6_byLife_K78 at hm
            refine lv_lload hx hb dX6_byLife_119 (lv_at hl13 6 rfl) ?_
            refine lv_lload hx hb dX6_byLife_121 (lv_at hl13 8 rfl) ?_
            refine lv_iload_n hx hb dX6_byLife_123 rfl (lv_at hl13 2 rfl) ?_
            refine lv_if_eq (tgt := 137) hx hb dX6_byLife_124 (by decide) (fun c124 => ?_) (fun c124 => ?_)
            · replace hm := tp hm c124
              refine lv_iload hx hb dX6_byLife_137 (lv_at hl13 4 rfl) ?_
              refine lv_iload hx hb dX6_byLife_139 (lv_at hl13 7 rfl) ?_
              refine lv_iconst (v := (-1 : Int32)) hx hb dX6_byLife_141 (by decide) ?_
              refine lv_ixor hx hb dX6_byLife_142 ?_
              refine lv_iand hx hb dX6_byLife_143 ?_
              refine lv_if_ne (tgt := 151) hx hb dX6_byLife_144 (by decide) (fun c144 => ?_) (fun c144 => ?_)
              · replace hm := tn hm c144
                refine lv_iconst (v := (0 : Int32)) hx hb dX6_byLife_151 (by decide) ?_
                refine lv_i2l hx hb dX6_byLife_152 rfl ?_
                refine lv_lmul hx hb dX6_byLife_153 ?_
                refine lv_ladd hx hb dX6_byLife_154 ?_
                refine lv_lstore (lv' := [(5, .long (z61.1 + (z78.1 * ((0 : Int32).toInt64)))), (0, .ref (a 99)), (1, .int x1), (2, .int x2), (3, .int x3), (4, .int z12.1), (7, .long z12.2.1), (9, .int z61.2), (10, .long z78.1)]) hx hb dX6_byLife_155 hl13 (by decide) rfl (fun ls16 hl16 => ?_)
                clear hl13
                refine lv_iinc (v := (z61.2 + (1 : Int32))) (lv' := [(9, .int (z61.2 + (1 : Int32))), (5, .long (z61.1 + (z78.1 * ((0 : Int32).toInt64)))), (0, .ref (a 99)), (1, .int x1), (2, .int x2), (3, .int x3), (4, .int z12.1), (7, .long z12.2.1), (10, .long z78.1)]) hx hb dX6_byLife_157 hl16 (k := 7) rfl rfl (by decide) rfl (fun ls17 hl17 => ?_)
                clear hl16
                refine lv_goto (tgt := 61) hx hb dX6_byLife_160 (by decide) ?_
                cases hm
                exact ih61 ((z61.1 + (z78.1 * ((0 : Int32).toInt64))), (z61.2 + (1 : Int32))) ρ61 hz61 hK61 _ (lv_sub hl17 [2, 3, 4, 5, 6, 7, 1, 0] rfl)
              · replace hm := tp hm c144
                refine lv_iconst (v := (1 : Int32)) hx hb dX6_byLife_147 (by decide) ?_
                refine lv_goto (tgt := 152) hx hb dX6_byLife_148 (by decide) ?_
                refine lv_i2l hx hb dX6_byLife_152 rfl ?_
                refine lv_lmul hx hb dX6_byLife_153 ?_
                refine lv_ladd hx hb dX6_byLife_154 ?_
                refine lv_lstore (lv' := [(5, .long (z61.1 + (z78.1 * ((1 : Int32).toInt64)))), (0, .ref (a 99)), (1, .int x1), (2, .int x2), (3, .int x3), (4, .int z12.1), (7, .long z12.2.1), (9, .int z61.2), (10, .long z78.1)]) hx hb dX6_byLife_155 hl13 (by decide) rfl (fun ls14 hl14 => ?_)
                clear hl13
                refine lv_iinc (v := (z61.2 + (1 : Int32))) (lv' := [(9, .int (z61.2 + (1 : Int32))), (5, .long (z61.1 + (z78.1 * ((1 : Int32).toInt64)))), (0, .ref (a 99)), (1, .int x1), (2, .int x2), (3, .int x3), (4, .int z12.1), (7, .long z12.2.1), (10, .long z78.1)]) hx hb dX6_byLife_157 hl14 (k := 7) rfl rfl (by decide) rfl (fun ls15 hl15 => ?_)
                clear hl14
                refine lv_goto (tgt := 61) hx hb dX6_byLife_160 (by decide) ?_
                cases hm
                exact ih61 ((z61.1 + (z78.1 * ((1 : Int32).toInt64))), (z61.2 + (1 : Int32))) ρ61 hz61 hK61 _ (lv_sub hl15 [2, 3, 4, 5, 6, 7, 1, 0] rfl)
            · replace hm := tn hm c124
              refine lv_aload_n hx hb dX6_byLife_127 rfl (lv_at hl13 0 rfl) ?_
              refine lv_iconst (v := (0 : Int32)) hx hb dX6_byLife_128 (by decide) ?_
              refine lv_iload hx hb dX6_byLife_129 (lv_at hl13 7 rfl) ?_
              obtain ⟨y131, hy131, hm⟩ := bn hm
              refine cVRi (As := [.int (0 : Int32), .int z61.2]) (rest := [.long z78.1, .long z61.1]) X hP0 hl13.1 (c_X6_valueOn l D q a v (0 : Int32) z61.2 y131 hy131) [0, 1, 2, 3, 4, 5, 6, 7, 8, 9, 10, 11, 12, 13, 14, 15, 16, 17] rfl 0 rfl rfl rfl k_1233 mX6_valueOn ⟨rfl, rfl⟩ ⟨Nat.le_of_ble_eq_true rfl, Nat.le_of_ble_eq_true rfl⟩ rfl rfl (Nat.le_of_ble_eq_true rfl) dX6_byLife_131 ⟨Nat.zero_le _, Nat.zero_le _⟩ ?_
              refine lv_goto (tgt := 152) hx hb dX6_byLife_134 (by decide) ?_
              refine lv_i2l hx hb dX6_byLife_152 rfl ?_
              refine lv_lmul hx hb dX6_byLife_153 ?_
              refine lv_ladd hx hb dX6_byLife_154 ?_
              refine lv_lstore (lv' := [(5, .long (z61.1 + (z78.1 * (y131.toInt64)))), (0, .ref (a 99)), (1, .int x1), (2, .int x2), (3, .int x3), (4, .int z12.1), (7, .long z12.2.1), (9, .int z61.2), (10, .long z78.1)]) hx hb dX6_byLife_155 hl13 (by decide) rfl (fun ls18 hl18 => ?_)
              clear hl13
              refine lv_iinc (v := (z61.2 + (1 : Int32))) (lv' := [(9, .int (z61.2 + (1 : Int32))), (5, .long (z61.1 + (z78.1 * (y131.toInt64)))), (0, .ref (a 99)), (1, .int x1), (2, .int x2), (3, .int x3), (4, .int z12.1), (7, .long z12.2.1), (10, .long z78.1)]) hx hb dX6_byLife_157 hl18 (k := 7) rfl rfl (by decide) rfl (fun ls19 hl19 => ?_)
              clear hl18
              refine lv_goto (tgt := 61) hx hb dX6_byLife_160 (by decide) ?_
              cases hm
              exact ih61 ((z61.1 + (z78.1 * (y131.toInt64))), (z61.2 + (1 : Int32))) ρ61 hz61 hK61 _ (lv_sub hl19 [2, 3, 4, 5, 6, 7, 1, 0] rfl)
          have hL78 : ∀ (n : Nat) (z78 : Int64 × Int32) (ρ78 : Int64 × Int32), lpO (m_X6_byLife_L78 v x1 z61) n z78 = some ρ78 → (m_X6_byLife_K78 v x2 z12 z61) ρ78 = some t61 → ∀ ls : Array Slot, lv_has ls 13 [(0, .ref (a 99)), (1, .int x1), (2, .int x2), (3, .int x3), (4, .int z12.1), (7, .long z12.2.1), (5, .long z61.1), (9, .int z61.2), (10, .long z78.1), (12, .int z78.2)] → W p l e ((headSpec (mw yX6_byLife cX6_byLife 13 (some .long)) ({ frames := 5, cells := 0, slots := 0, locals := 122 } : Room)).room) s m [.ref (a 99), .int x1, .int x2, .int x3].toArray below meth c s.heap [] 0 0 (MQ below (vp_Sl (fun x => x = res)) [.ref (a 99), .int x1, .int x2, .int x3].toArray s 0 0 (fun _ => False)) (F0 m 78 ls []) := by
            intro n
            induction n with
            | zero => intro _ _ h; cases h
            | succ n ih78 =>
              intro z78 ρ78 hz78 hK78 ls12 hl12
              obtain ⟨t78, hm, hz78⟩ := bn hz78
              unfold m_X6_byLife_L78 at hm
              refine lv_iload hx hb dX6_byLife_78 (lv_at hl12 9 rfl) ?_
              refine lv_aload_n hx hb dX6_byLife_80 rfl (lv_at hl12 0 rfl) ?_
              refine va_get (D := D) (ci := 6) (v := .int (v 0 2)) (C := RX6) (T := TX6) (N := 40) hx hb hW iX6 hown hK hP0 0 rfl rfl 2 (by decide) (hW _ k_869) (fun _ h => h) rfl dX6_byLife_81 ?_
              refine lv_icmp_ge (tgt := 119) hx hb dX6_byLife_84 (by decide) (fun c84 => ?_) (fun c84 => ?_)
              · replace hm := tp hm c84
                cases hm
                cases hz78
                exact hE78 (z78.1, z78.2) hK78 _ (lv_sub hl12 [0, 1, 2, 3, 4, 5, 6, 7, 8] rfl)
              · replace hm := tn hm c84
                refine lv_lload hx hb dX6_byLife_87 (lv_at hl12 8 rfl) ?_
                refine lv_iload hx hb dX6_byLife_89 (lv_at hl12 7 rfl) ?_
                refine lv_iload hx hb dX6_byLife_91 (lv_at hl12 9 rfl) ?_
                refine lv_ishr hx hb dX6_byLife_93 ?_
                refine lv_iconst (v := (1 : Int32)) hx hb dX6_byLife_94 (by decide) ?_
                refine lv_iand hx hb dX6_byLife_95 ?_
                refine lv_iconst (v := (1 : Int32)) hx hb dX6_byLife_96 (by decide) ?_
                refine lv_icmp_ne (tgt := 108) hx hb dX6_byLife_97 (by decide) (fun c97 => ?_) (fun c97 => ?_)
                · replace hm := tn hm c97
                  refine lv_iload_n hx hb dX6_byLife_108 rfl (lv_at hl12 1 rfl) ?_
                  refine lv_i2l hx hb dX6_byLife_109 rfl ?_
                  refine lv_lmul hx hb dX6_byLife_110 ?_
                  refine lv_lstore (lv' := [(10, .long (z78.1 * (x1.toInt64))), (0, .ref (a 99)), (1, .int x1), (2, .int x2), (3, .int x3), (4, .int z12.1), (7, .long z12.2.1), (5, .long z61.1), (9, .int z61.2), (12, .int z78.2)]) hx hb dX6_byLife_111 hl12 (by decide) rfl (fun ls22 hl22 => ?_)
                  clear hl12
                  refine lv_iinc (v := (z78.2 + (1 : Int32))) (lv' := [(12, .int (z78.2 + (1 : Int32))), (10, .long (z78.1 * (x1.toInt64))), (0, .ref (a 99)), (1, .int x1), (2, .int x2), (3, .int x3), (4, .int z12.1), (7, .long z12.2.1), (5, .long z61.1), (9, .int z61.2)]) hx hb dX6_byLife_113 hl22 (k := 9) rfl rfl (by decide) rfl (fun ls23 hl23 => ?_)
                  clear hl22
                  refine lv_goto (tgt := 78) hx hb dX6_byLife_116 (by decide) ?_
                  cases hm
                  exact ih78 ((z78.1 * (x1.toInt64)), (z78.2 + (1 : Int32))) ρ78 hz78 hK78 _ (lv_sub hl23 [2, 3, 4, 5, 6, 7, 8, 9, 1, 0] rfl)
                · replace hm := tp hm c97
                  refine lv_bipush (v := (10 : Int32)) hx hb dX6_byLife_100 (by decide) ?_
                  refine lv_iload_n hx hb dX6_byLife_102 rfl (lv_at hl12 1 rfl) ?_
                  refine lv_isub hx hb dX6_byLife_103 ?_
                  refine lv_i2l hx hb dX6_byLife_104 rfl ?_
                  refine lv_goto (tgt := 110) hx hb dX6_byLife_105 (by decide) ?_
                  refine lv_lmul hx hb dX6_byLife_110 ?_
                  refine lv_lstore (lv' := [(10, .long (z78.1 * (((10 : Int32) - x1).toInt64))), (0, .ref (a 99)), (1, .int x1), (2, .int x2), (3, .int x3), (4, .int z12.1), (7, .long z12.2.1), (5, .long z61.1), (9, .int z61.2), (12, .int z78.2)]) hx hb dX6_byLife_111 hl12 (by decide) rfl (fun ls20 hl20 => ?_)
                  clear hl12
                  refine lv_iinc (v := (z78.2 + (1 : Int32))) (lv' := [(12, .int (z78.2 + (1 : Int32))), (10, .long (z78.1 * (((10 : Int32) - x1).toInt64))), (0, .ref (a 99)), (1, .int x1), (2, .int x2), (3, .int x3), (4, .int z12.1), (7, .long z12.2.1), (5, .long z61.1), (9, .int z61.2)]) hx hb dX6_byLife_113 hl20 (k := 9) rfl rfl (by decide) rfl (fun ls21 hl21 => ?_)
                  clear hl20
                  refine lv_goto (tgt := 78) hx hb dX6_byLife_116 (by decide) ?_
                  cases hm
                  exact ih78 ((z78.1 * (((10 : Int32) - x1).toInt64)), (z78.2 + (1 : Int32))) ρ78 hz78 hK78 _ (lv_sub hl21 [2, 3, 4, 5, 6, 7, 8, 9, 1, 0] rfl)
          exact hL78 n78 ((1 : Int64), (0 : Int32)) r78 hn78 hm _ (lv_sub hl11 [2, 3, 4, 5, 6, 7, 8, 9, 1, 0] rfl)
    exact hL61 n61 ((0 : Int64), (0 : Int32)) r61 hn61 hm _ (lv_sub hl7 [2, 3, 4, 5, 6, 7, 1, 0] rfl)
  have hL12 : ∀ (n : Nat) (z12 : Int32 × Int64 × Int32) (ρ12 : Int32 × Int64 × Int32), lpO (m_X6_byLife_L12 v) n z12 = some ρ12 → (m_X6_byLife_K12 v x1 x2 x3) ρ12 = some res → ∀ ls : Array Slot, lv_has ls 13 [(5, .long (0 : Int64)), (0, .ref (a 99)), (1, .int x1), (2, .int x2), (3, .int x3), (4, .int z12.1), (7, .long z12.2.1), (9, .int z12.2.2)] → W p l e ((headSpec (mw yX6_byLife cX6_byLife 13 (some .long)) ({ frames := 5, cells := 0, slots := 0, locals := 122 } : Room)).room) s m [.ref (a 99), .int x1, .int x2, .int x3].toArray below meth c s.heap [] 0 0 (MQ below (vp_Sl (fun x => x = res)) [.ref (a 99), .int x1, .int x2, .int x3].toArray s 0 0 (fun _ => False)) (F0 m 12 ls []) := by
    intro n
    induction n with
    | zero => intro _ _ h; cases h
    | succ n ih12 =>
      intro z12 ρ12 hz12 hK12 ls5 hl5
      obtain ⟨t12, hm, hz12⟩ := bn hz12
      unfold m_X6_byLife_L12 at hm
      refine lv_iload hx hb dX6_byLife_12 (lv_at hl5 7 rfl) ?_
      refine lv_aload_n hx hb dX6_byLife_14 rfl (lv_at hl5 1 rfl) ?_
      refine va_get (D := D) (ci := 6) (v := .int (v 0 2)) (C := RX6) (T := TX6) (N := 40) hx hb hW iX6 hown hK hP0 0 rfl rfl 2 (by decide) (hW _ k_869) (fun _ h => h) rfl dX6_byLife_15 ?_
      refine lv_icmp_ge (tgt := 58) hx hb dX6_byLife_18 (by decide) (fun c18 => ?_) (fun c18 => ?_)
      · replace hm := tp hm c18
        cases hm
        cases hz12
        exact hE12 (z12.1, z12.2.1, z12.2.2) hK12 _ (lv_sub hl5 [0, 1, 2, 3, 4, 5, 6] rfl)
      · replace hm := tn hm c18
        refine lv_iload hx hb dX6_byLife_21 (lv_at hl5 5 rfl) ?_
        refine lv_aload_n hx hb dX6_byLife_23 rfl (lv_at hl5 1 rfl) ?_
        refine lv_iconst (v := (0 : Int32)) hx hb dX6_byLife_24 (by decide) ?_
        refine lv_iload hx hb dX6_byLife_25 (lv_at hl5 7 rfl) ?_
        obtain ⟨y27, hy27, hm⟩ := bn hm
        refine cVRi (As := [.int (0 : Int32), .int z12.2.2]) (rest := [.int z12.1]) X hP0 hl5.1 (c_X6_shownOn l D q a v (0 : Int32) z12.2.2 y27 hy27) [0, 1, 2, 3, 4, 5, 6, 7, 8, 9, 10, 11, 12, 13, 14, 15, 16, 17] rfl 0 rfl rfl rfl k_1106 mX6_shownOn ⟨rfl, rfl⟩ ⟨Nat.le_of_ble_eq_true rfl, Nat.le_of_ble_eq_true rfl⟩ rfl rfl (Nat.le_of_ble_eq_true rfl) dX6_byLife_27 ⟨Nat.zero_le _, Nat.zero_le _⟩ ?_
        refine lv_if_eq (tgt := 40) hx hb dX6_byLife_30 (by decide) (fun c30 => ?_) (fun c30 => ?_)
        · replace hm := tp hm c30
          refine lv_iconst (v := (0 : Int32)) hx hb dX6_byLife_40 (by decide) ?_
          refine lv_ior hx hb dX6_byLife_41 ?_
          refine lv_istore (lv' := [(4, .int (z12.1 ||| (0 : Int32))), (5, .long (0 : Int64)), (0, .ref (a 99)), (1, .int x1), (2, .int x2), (3, .int x3), (7, .long z12.2.1), (9, .int z12.2.2)]) hx hb dX6_byLife_42 hl5 (by decide) rfl (fun ls24 hl24 => ?_)
          clear hl5
          refine lv_lload hx hb dX6_byLife_44 (lv_at hl24 6 rfl) ?_
          refine lv_ldc2 (v := (10 : Int64)) hx hb hown (hW _ k_1262) dX6_byLife_46 ?_
          refine lv_lmul hx hb dX6_byLife_49 ?_
          refine lv_lstore (lv' := [(7, .long (z12.2.1 * (10 : Int64))), (4, .int (z12.1 ||| (0 : Int32))), (5, .long (0 : Int64)), (0, .ref (a 99)), (1, .int x1), (2, .int x2), (3, .int x3), (9, .int z12.2.2)]) hx hb dX6_byLife_50 hl24 (by decide) rfl (fun ls25 hl25 => ?_)
          clear hl24
          refine lv_iinc (v := (z12.2.2 + (1 : Int32))) (lv' := [(9, .int (z12.2.2 + (1 : Int32))), (7, .long (z12.2.1 * (10 : Int64))), (4, .int (z12.1 ||| (0 : Int32))), (5, .long (0 : Int64)), (0, .ref (a 99)), (1, .int x1), (2, .int x2), (3, .int x3)]) hx hb dX6_byLife_52 hl25 (k := 7) rfl rfl (by decide) rfl (fun ls26 hl26 => ?_)
          clear hl25
          refine lv_goto (tgt := 12) hx hb dX6_byLife_55 (by decide) ?_
          cases hm
          exact ih12 ((z12.1 ||| (0 : Int32)), (z12.2.1 * (10 : Int64)), (z12.2.2 + (1 : Int32))) ρ12 hz12 hK12 _ (lv_sub hl26 [3, 4, 5, 6, 7, 2, 1, 0] rfl)
        · replace hm := tn hm c30
          refine lv_iconst (v := (1 : Int32)) hx hb dX6_byLife_33 (by decide) ?_
          refine lv_iload hx hb dX6_byLife_34 (lv_at hl5 7 rfl) ?_
          refine lv_ishl hx hb dX6_byLife_36 ?_
          refine lv_goto (tgt := 41) hx hb dX6_byLife_37 (by decide) ?_
          refine lv_ior hx hb dX6_byLife_41 ?_
          refine lv_istore (lv' := [(4, .int (z12.1 ||| ((1 : Int32) <<< (z12.2.2 &&& 31)))), (5, .long (0 : Int64)), (0, .ref (a 99)), (1, .int x1), (2, .int x2), (3, .int x3), (7, .long z12.2.1), (9, .int z12.2.2)]) hx hb dX6_byLife_42 hl5 (by decide) rfl (fun ls27 hl27 => ?_)
          clear hl5
          refine lv_lload hx hb dX6_byLife_44 (lv_at hl27 6 rfl) ?_
          refine lv_ldc2 (v := (10 : Int64)) hx hb hown (hW _ k_1262) dX6_byLife_46 ?_
          refine lv_lmul hx hb dX6_byLife_49 ?_
          refine lv_lstore (lv' := [(7, .long (z12.2.1 * (10 : Int64))), (4, .int (z12.1 ||| ((1 : Int32) <<< (z12.2.2 &&& 31)))), (5, .long (0 : Int64)), (0, .ref (a 99)), (1, .int x1), (2, .int x2), (3, .int x3), (9, .int z12.2.2)]) hx hb dX6_byLife_50 hl27 (by decide) rfl (fun ls28 hl28 => ?_)
          clear hl27
          refine lv_iinc (v := (z12.2.2 + (1 : Int32))) (lv' := [(9, .int (z12.2.2 + (1 : Int32))), (7, .long (z12.2.1 * (10 : Int64))), (4, .int (z12.1 ||| ((1 : Int32) <<< (z12.2.2 &&& 31)))), (5, .long (0 : Int64)), (0, .ref (a 99)), (1, .int x1), (2, .int x2), (3, .int x3)]) hx hb dX6_byLife_52 hl28 (k := 7) rfl rfl (by decide) rfl (fun ls29 hl29 => ?_)
          clear hl28
          refine lv_goto (tgt := 12) hx hb dX6_byLife_55 (by decide) ?_
          cases hm
          exact ih12 ((z12.1 ||| ((1 : Int32) <<< (z12.2.2 &&& 31))), (z12.2.1 * (10 : Int64)), (z12.2.2 + (1 : Int32))) ρ12 hz12 hK12 _ (lv_sub hl29 [3, 4, 5, 6, 7, 2, 1, 0] rfl)
  exact hL12 n12 ((0 : Int32), (1 : Int64), (0 : Int32)) r12 hn12 hm _ (lv_sub hl4 [2, 4, 5, 6, 7, 3, 1, 0] rfl)
noncomputable def m_X6_alive (v : SV) (x1 : Int32) (x2 : Int32) : Option (Int64) :=
  (m_X6_in (x1.toInt64) (0 : Int64) (10 : Int64)).bind (fun y6 => (if y6 = 0 then some (-1 : Int64) else (m_X6_in (x2.toInt64) (0 : Int64) (1 : Int64)).bind (fun y16 => (if y16 = 0 then some (-1 : Int64) else (m_X6_byLife v x1 (0 : Int32) x2).bind (fun y26 => some y26)))))
set_option maxHeartbeats 4000000 in
set_option maxRecDepth 100000 in
theorem c_X6_alive (l : Launch) (D : va_G) (q : Nat → ClassId) (a : Nat → Nat) (v : SV) (x1 : Int32) (x2 : Int32) (res : Int64) (hm : m_X6_alive v x1 x2 = some res) : Met l yX6_alive (mw yX6_alive cX6_alive 3 (some .long)) ({ frames := 6, cells := 0, slots := 0, locals := 154 } : Room) (pcR D q (wX6 q a v) [.ref (a 99), .int x1, .int x2]) (vp_Sl (fun x => x = res)) 0 0 (fun _ => False) := by
  refine Met.ofW (cc := cX6_alive) (maxL := 3) (ret := (some .long)) (by decide) rfl ?_
  intro p e s m args below meth c s₁ B hml hv
  obtain ⟨rfl, hP0, hK⟩ := hv
  have hx := B.exec
  have hb := B.bytes
  have hr := B.returns
  have hW := mw_ws (atoms_spec (ws := mw yX6_alive cX6_alive 3 (some .long)) B.pre)
  have hown : s.vm.findClass RX6 = some m.cls := findClass_of_methodNamed B.named
  have hlocks := B.notSynchronized
  have X : Cx p s m [.ref (a 99), .int x1, .int x2].toArray c cX6_alive 3 RX6 D q := ⟨hx, hb, hml, hown, hW, hK⟩
  have hl0 := lv_entry ([.ref (a 99), .int x1, .int x2]) (n := 3) (Nat.le_of_ble_eq_true rfl)
  rw [lg_entry_eq]
  generalize (lg_sl ([.ref (a 99), .int x1, .int x2]) ++ List.replicate (3 - (lg_sl ([.ref (a 99), .int x1, .int x2])).length) Slot.unset).toArray = ls0 at hl0 ⊢
  have hl0 : lv_has ls0 3 [(0, .ref (a 99)), (1, .int x1), (2, .int x2)] := hl0
  unfold m_X6_alive at hm
  refine lv_iload_n hx hb dX6_alive_0 rfl (lv_at hl0 1 rfl) ?_
  refine lv_i2l hx hb dX6_alive_1 rfl ?_
  refine lv_lconst (v := (0 : Int64)) hx hb dX6_alive_2 (by decide) ?_
  refine lv_ldc2 (v := (10 : Int64)) hx hb hown (hW _ k_1262) dX6_alive_3 ?_
  obtain ⟨y6, hy6, hm⟩ := bn hm
  refine cSRi (As := [.long (x1.toInt64), .long (0 : Int64), .long (10 : Int64)]) (rest := []) X hP0 hl0.1 (c_X6_in l D q (x1.toInt64) (0 : Int64) (10 : Int64) y6 hy6) [] rfl k_993 mX6_in ⟨rfl, rfl⟩ ⟨Nat.le_of_ble_eq_true rfl, Nat.le_of_ble_eq_true rfl⟩ rfl rfl (Nat.le_of_ble_eq_true rfl) dX6_alive_6 ⟨Nat.zero_le _, Nat.zero_le _⟩ ?_
  refine lv_if_eq (tgt := 32) hx hb dX6_alive_9 (by decide) (fun c9 => ?_) (fun c9 => ?_)
  · replace hm := tp hm c9
    refine lv_ldc2 (v := (-1 : Int64)) hx hb hown (hW _ k_1127) dX6_alive_32 ?_
    exact eRl  X hr hlocks hm dX6_alive_35
  · replace hm := tn hm c9
    refine lv_iload_n hx hb dX6_alive_12 rfl (lv_at hl0 2 rfl) ?_
    refine lv_i2l hx hb dX6_alive_13 rfl ?_
    refine lv_lconst (v := (0 : Int64)) hx hb dX6_alive_14 (by decide) ?_
    refine lv_lconst (v := (1 : Int64)) hx hb dX6_alive_15 (by decide) ?_
    obtain ⟨y16, hy16, hm⟩ := bn hm
    refine cSRi (As := [.long (x2.toInt64), .long (0 : Int64), .long (1 : Int64)]) (rest := []) X hP0 hl0.1 (c_X6_in l D q (x2.toInt64) (0 : Int64) (1 : Int64) y16 hy16) [] rfl k_993 mX6_in ⟨rfl, rfl⟩ ⟨Nat.le_of_ble_eq_true rfl, Nat.le_of_ble_eq_true rfl⟩ rfl rfl (Nat.le_of_ble_eq_true rfl) dX6_alive_16 ⟨Nat.zero_le _, Nat.zero_le _⟩ ?_
    refine lv_if_eq (tgt := 32) hx hb dX6_alive_19 (by decide) (fun c19 => ?_) (fun c19 => ?_)
    · replace hm := tp hm c19
      refine lv_ldc2 (v := (-1 : Int64)) hx hb hown (hW _ k_1127) dX6_alive_32 ?_
      exact eRl  X hr hlocks hm dX6_alive_35
    · replace hm := tn hm c19
      refine lv_aload_n hx hb dX6_alive_22 rfl (lv_at hl0 0 rfl) ?_
      refine lv_iload_n hx hb dX6_alive_23 rfl (lv_at hl0 1 rfl) ?_
      refine lv_iconst (v := (0 : Int32)) hx hb dX6_alive_24 (by decide) ?_
      refine lv_iload_n hx hb dX6_alive_25 rfl (lv_at hl0 2 rfl) ?_
      obtain ⟨y26, hy26, hm⟩ := bn hm
      refine cVRl (As := [.int x1, .int (0 : Int32), .int x2]) (rest := []) X hP0 hl0.1 (c_X6_byLife l D q a v x1 (0 : Int32) x2 y26 hy26) [0, 1, 2, 3, 4, 5, 6, 7, 8, 9, 10, 11, 12, 13, 14, 15, 16, 17] rfl 0 rfl rfl rfl k_1263 mX6_byLife ⟨rfl, rfl⟩ ⟨Nat.le_of_ble_eq_true rfl, Nat.le_of_ble_eq_true rfl⟩ rfl rfl (Nat.le_of_ble_eq_true rfl) dX6_alive_26 ⟨Nat.zero_le _, Nat.zero_le _⟩ ?_
      refine lv_goto (tgt := 35) hx hb dX6_alive_29 (by decide) ?_
      exact eRl  X hr hlocks hm dX6_alive_35
noncomputable def m_X6_mean (v : SV) (x1 : Int32) (x2 : Int32) : Option (Int64) :=
  (m_X6_in (x1.toInt64) (0 : Int64) (10 : Int64)).bind (fun y6 => (if y6 = 0 then some (-1 : Int64) else (m_X6_in (x2.toInt64) (0 : Int64) (1 : Int64)).bind (fun y16 => (if y16 = 0 then some (-1 : Int64) else (m_X6_byLife v x1 (1 : Int32) x2).bind (fun y26 => some y26)))))
set_option maxHeartbeats 4000000 in
set_option maxRecDepth 100000 in
theorem c_X6_mean (l : Launch) (D : va_G) (q : Nat → ClassId) (a : Nat → Nat) (v : SV) (x1 : Int32) (x2 : Int32) (res : Int64) (hm : m_X6_mean v x1 x2 = some res) : Met l yX6_mean (mw yX6_mean cX6_mean 3 (some .long)) ({ frames := 6, cells := 0, slots := 0, locals := 154 } : Room) (pcR D q (wX6 q a v) [.ref (a 99), .int x1, .int x2]) (vp_Sl (fun x => x = res)) 0 0 (fun _ => False) := by
  refine Met.ofW (cc := cX6_mean) (maxL := 3) (ret := (some .long)) (by decide) rfl ?_
  intro p e s m args below meth c s₁ B hml hv
  obtain ⟨rfl, hP0, hK⟩ := hv
  have hx := B.exec
  have hb := B.bytes
  have hr := B.returns
  have hW := mw_ws (atoms_spec (ws := mw yX6_mean cX6_mean 3 (some .long)) B.pre)
  have hown : s.vm.findClass RX6 = some m.cls := findClass_of_methodNamed B.named
  have hlocks := B.notSynchronized
  have X : Cx p s m [.ref (a 99), .int x1, .int x2].toArray c cX6_mean 3 RX6 D q := ⟨hx, hb, hml, hown, hW, hK⟩
  have hl0 := lv_entry ([.ref (a 99), .int x1, .int x2]) (n := 3) (Nat.le_of_ble_eq_true rfl)
  rw [lg_entry_eq]
  generalize (lg_sl ([.ref (a 99), .int x1, .int x2]) ++ List.replicate (3 - (lg_sl ([.ref (a 99), .int x1, .int x2])).length) Slot.unset).toArray = ls0 at hl0 ⊢
  have hl0 : lv_has ls0 3 [(0, .ref (a 99)), (1, .int x1), (2, .int x2)] := hl0
  unfold m_X6_mean at hm
  refine lv_iload_n hx hb dX6_mean_0 rfl (lv_at hl0 1 rfl) ?_
  refine lv_i2l hx hb dX6_mean_1 rfl ?_
  refine lv_lconst (v := (0 : Int64)) hx hb dX6_mean_2 (by decide) ?_
  refine lv_ldc2 (v := (10 : Int64)) hx hb hown (hW _ k_1262) dX6_mean_3 ?_
  obtain ⟨y6, hy6, hm⟩ := bn hm
  refine cSRi (As := [.long (x1.toInt64), .long (0 : Int64), .long (10 : Int64)]) (rest := []) X hP0 hl0.1 (c_X6_in l D q (x1.toInt64) (0 : Int64) (10 : Int64) y6 hy6) [] rfl k_993 mX6_in ⟨rfl, rfl⟩ ⟨Nat.le_of_ble_eq_true rfl, Nat.le_of_ble_eq_true rfl⟩ rfl rfl (Nat.le_of_ble_eq_true rfl) dX6_mean_6 ⟨Nat.zero_le _, Nat.zero_le _⟩ ?_
  refine lv_if_eq (tgt := 32) hx hb dX6_mean_9 (by decide) (fun c9 => ?_) (fun c9 => ?_)
  · replace hm := tp hm c9
    refine lv_ldc2 (v := (-1 : Int64)) hx hb hown (hW _ k_1127) dX6_mean_32 ?_
    exact eRl  X hr hlocks hm dX6_mean_35
  · replace hm := tn hm c9
    refine lv_iload_n hx hb dX6_mean_12 rfl (lv_at hl0 2 rfl) ?_
    refine lv_i2l hx hb dX6_mean_13 rfl ?_
    refine lv_lconst (v := (0 : Int64)) hx hb dX6_mean_14 (by decide) ?_
    refine lv_lconst (v := (1 : Int64)) hx hb dX6_mean_15 (by decide) ?_
    obtain ⟨y16, hy16, hm⟩ := bn hm
    refine cSRi (As := [.long (x2.toInt64), .long (0 : Int64), .long (1 : Int64)]) (rest := []) X hP0 hl0.1 (c_X6_in l D q (x2.toInt64) (0 : Int64) (1 : Int64) y16 hy16) [] rfl k_993 mX6_in ⟨rfl, rfl⟩ ⟨Nat.le_of_ble_eq_true rfl, Nat.le_of_ble_eq_true rfl⟩ rfl rfl (Nat.le_of_ble_eq_true rfl) dX6_mean_16 ⟨Nat.zero_le _, Nat.zero_le _⟩ ?_
    refine lv_if_eq (tgt := 32) hx hb dX6_mean_19 (by decide) (fun c19 => ?_) (fun c19 => ?_)
    · replace hm := tp hm c19
      refine lv_ldc2 (v := (-1 : Int64)) hx hb hown (hW _ k_1127) dX6_mean_32 ?_
      exact eRl  X hr hlocks hm dX6_mean_35
    · replace hm := tn hm c19
      refine lv_aload_n hx hb dX6_mean_22 rfl (lv_at hl0 0 rfl) ?_
      refine lv_iload_n hx hb dX6_mean_23 rfl (lv_at hl0 1 rfl) ?_
      refine lv_iconst (v := (1 : Int32)) hx hb dX6_mean_24 (by decide) ?_
      refine lv_iload_n hx hb dX6_mean_25 rfl (lv_at hl0 2 rfl) ?_
      obtain ⟨y26, hy26, hm⟩ := bn hm
      refine cVRl (As := [.int x1, .int (1 : Int32), .int x2]) (rest := []) X hP0 hl0.1 (c_X6_byLife l D q a v x1 (1 : Int32) x2 y26 hy26) [0, 1, 2, 3, 4, 5, 6, 7, 8, 9, 10, 11, 12, 13, 14, 15, 16, 17] rfl 0 rfl rfl rfl k_1263 mX6_byLife ⟨rfl, rfl⟩ ⟨Nat.le_of_ble_eq_true rfl, Nat.le_of_ble_eq_true rfl⟩ rfl rfl (Nat.le_of_ble_eq_true rfl) dX6_mean_26 ⟨Nat.zero_le _, Nat.zero_le _⟩ ?_
      refine lv_goto (tgt := 35) hx hb dX6_mean_29 (by decide) ?_
      exact eRl  X hr hlocks hm dX6_mean_35
noncomputable def m_X6_see (v : SV) (x1 : Int32) (x2 : Int32) (x3 : Int32) : Option (Int32 × SV) :=
  (m_X6_isPart v x1).bind (fun y2 => (if y2 = 0 then some ((-1 : Int32), v) else (m_X6_isPart v x2).bind (fun y10 => (if y10 = 0 then some ((-1 : Int32), v) else (if x1 = x2 then some ((-1 : Int32), v) else (if (v 0 32) = (6 : Int32) then some ((-3 : Int32), v) else ck (inB ((3 : Int32) * (v 0 32)) 18) (lett (up2 v 31 ((((3 : Int32) * (v 0 32))).toNatClampNeg) x1) (fun v2_ => ck (inB (((3 : Int32) * (v2_ 0 32)) + (1 : Int32)) 18) (lett (up2 v2_ 31 (((((3 : Int32) * (v2_ 0 32)) + (1 : Int32))).toNatClampNeg) x2) (fun v4_ => (if x3 = 0 then ck (inB (((3 : Int32) * (v4_ 0 32)) + (2 : Int32)) 18) (lett (up2 v4_ 31 (((((3 : Int32) * (v4_ 0 32)) + (2 : Int32))).toNatClampNeg) (0 : Int32)) (fun v6_ => lett (up2 v6_ 0 32 ((v6_ 0 32) + (1 : Int32))) (fun v7_ => some ((v7_ 0 32), v7_)))) else ck (inB (((3 : Int32) * (v4_ 0 32)) + (2 : Int32)) 18) (lett (up2 v4_ 31 (((((3 : Int32) * (v4_ 0 32)) + (2 : Int32))).toNatClampNeg) (1 : Int32)) (fun v9_ => lett (up2 v9_ 0 32 ((v9_ 0 32) + (1 : Int32))) (fun v10_ => some ((v10_ 0 32), v10_)))))))))))))))
set_option maxHeartbeats 4000000 in
set_option maxRecDepth 100000 in
theorem c_X6_see (l : Launch) (D : va_G) (q : Nat → ClassId) (sz : Nat) (a : Nat → Nat) (v : SV) (x1 : Int32) (x2 : Int32) (x3 : Int32) (res : Int32 × SV) (hm : m_X6_see v x1 x2 x3 = some res) : Met l yX6_see (mw yX6_see cX6_see 4 (some .int)) ({ frames := 2, cells := 0, slots := 0, locals := 46 } : Room) (pcW D q (wX6 q a v) sz [.ref (a 99), .int x1, .int x2, .int x3]) (va_Qi (fun r w => r = res.1 ∧ w = res.2) (bW D q (wX6 q a v) sz (fun (uu : SV) => wX6 q a uu)) (va_A (wX6 q a v) sz)) 0 0 (va_A (wX6 q a v) sz) := by
  refine Met.ofW (cc := cX6_see) (maxL := 4) (ret := (some .int)) (by decide) rfl ?_
  intro p e s m args below meth c s₁ B hml hv
  obtain ⟨rfl, hsz, hP0, hK, hD0⟩ := hv
  have hx := B.exec
  have hb := B.bytes
  have hr := B.returns
  have hW := mw_ws (atoms_spec (ws := mw yX6_see cX6_see 4 (some .int)) B.pre)
  have hown : s.vm.findClass RX6 = some m.cls := findClass_of_methodNamed B.named
  have hlocks := B.notSynchronized
  have X : Cx p s m [.ref (a 99), .int x1, .int x2, .int x3].toArray c cX6_see 4 RX6 D q := ⟨hx, hb, hml, hown, hW, hK⟩
  subst hsz
  replace hD0 := hD0.self (sz := s.heap.size)
  have hS0 : va_S (va_A (wX6 q a v) s.heap.size) s.heap s.heap [] := va_S.rf
  have hl0 := lv_entry ([.ref (a 99), .int x1, .int x2, .int x3]) (n := 4) (Nat.le_of_ble_eq_true rfl)
  rw [lg_entry_eq]
  generalize (lg_sl ([.ref (a 99), .int x1, .int x2, .int x3]) ++ List.replicate (4 - (lg_sl ([.ref (a 99), .int x1, .int x2, .int x3])).length) Slot.unset).toArray = ls0 at hl0 ⊢
  have hl0 : lv_has ls0 4 [(0, .ref (a 99)), (1, .int x1), (2, .int x2), (3, .int x3)] := hl0
  unfold m_X6_see at hm
  refine lv_aload_n hx hb dX6_see_0 rfl (lv_at hl0 0 rfl) ?_
  refine lv_iload_n hx hb dX6_see_1 rfl (lv_at hl0 1 rfl) ?_
  obtain ⟨y2, hy2, hm⟩ := bn hm
  refine cVRi (As := [.int x1]) (rest := []) X hP0 hl0.1 (c_X6_isPart l D q a v x1 y2 hy2) [0, 1, 2, 3, 4, 5, 6, 7, 8, 9, 10, 11, 12, 13, 14, 15, 16, 17] rfl 0 rfl rfl rfl k_1086 mX6_isPart ⟨rfl, rfl⟩ ⟨Nat.le_of_ble_eq_true rfl, Nat.le_of_ble_eq_true rfl⟩ rfl rfl (Nat.le_of_ble_eq_true rfl) dX6_see_2 ⟨Nat.zero_le _, Nat.zero_le _⟩ ?_
  refine lv_if_eq (tgt := 21) hx hb dX6_see_5 (by decide) (fun c5 => ?_) (fun c5 => ?_)
  · replace hm := tp hm c5
    refine lv_iconst (v := (-1 : Int32)) hx hb dX6_see_21 (by decide) ?_
    exact eWi (Wf := fun (uu : SV) => wX6 q a uu) (u := v) X hr hlocks hP0 hD0 hS0 hm dX6_see_22
  · replace hm := tn hm c5
    refine lv_aload_n hx hb dX6_see_8 rfl (lv_at hl0 0 rfl) ?_
    refine lv_iload_n hx hb dX6_see_9 rfl (lv_at hl0 2 rfl) ?_
    obtain ⟨y10, hy10, hm⟩ := bn hm
    refine cVRi (As := [.int x2]) (rest := []) X hP0 hl0.1 (c_X6_isPart l D q a v x2 y10 hy10) [0, 1, 2, 3, 4, 5, 6, 7, 8, 9, 10, 11, 12, 13, 14, 15, 16, 17] rfl 0 rfl rfl rfl k_1086 mX6_isPart ⟨rfl, rfl⟩ ⟨Nat.le_of_ble_eq_true rfl, Nat.le_of_ble_eq_true rfl⟩ rfl rfl (Nat.le_of_ble_eq_true rfl) dX6_see_10 ⟨Nat.zero_le _, Nat.zero_le _⟩ ?_
    refine lv_if_eq (tgt := 21) hx hb dX6_see_13 (by decide) (fun c13 => ?_) (fun c13 => ?_)
    · replace hm := tp hm c13
      refine lv_iconst (v := (-1 : Int32)) hx hb dX6_see_21 (by decide) ?_
      exact eWi (Wf := fun (uu : SV) => wX6 q a uu) (u := v) X hr hlocks hP0 hD0 hS0 hm dX6_see_22
    · replace hm := tn hm c13
      refine lv_iload_n hx hb dX6_see_16 rfl (lv_at hl0 1 rfl) ?_
      refine lv_iload_n hx hb dX6_see_17 rfl (lv_at hl0 2 rfl) ?_
      refine lv_icmp_ne (tgt := 23) hx hb dX6_see_18 (by decide) (fun c18 => ?_) (fun c18 => ?_)
      · replace hm := tn hm c18
        refine lv_aload_n hx hb dX6_see_23 rfl (lv_at hl0 0 rfl) ?_
        refine va_get (D := D) (ci := 6) (v := .int (v 0 32)) (C := RX6) (T := TX6) (N := 40) hx hb hW iX6 hown hK hP0 0 rfl rfl 32 (by decide) (hW _ k_899) (fun _ h => h) rfl dX6_see_24 ?_
        refine lv_bipush (v := (6 : Int32)) hx hb dX6_see_27 (by decide) ?_
        refine lv_icmp_ne (tgt := 35) hx hb dX6_see_29 (by decide) (fun c29 => ?_) (fun c29 => ?_)
        · replace hm := tn hm c29
          refine lv_aload_n hx hb dX6_see_35 rfl (lv_at hl0 0 rfl) ?_
          refine va_get (D := D) (ci := 6) (v := .ref (a 31)) (C := RX6) (T := TX6) (N := 40) hx hb hW iX6 hown hK hP0 0 rfl rfl 31 (by decide) (hW _ k_898) (fun _ h => h) rfl dX6_see_36 ?_
          refine lv_iconst (v := (3 : Int32)) hx hb dX6_see_39 (by decide) ?_
          refine lv_aload_n hx hb dX6_see_40 rfl (lv_at hl0 0 rfl) ?_
          refine va_get (D := D) (ci := 6) (v := .int (v 0 32)) (C := RX6) (T := TX6) (N := 40) hx hb hW iX6 hown hK hP0 0 rfl rfl 32 (by decide) (hW _ k_899) (fun _ h => h) rfl dX6_see_41 ?_
          refine lv_imul hx hb dX6_see_44 ?_
          refine lv_iload_n hx hb dX6_see_45 rfl (lv_at hl0 1 rfl) ?_
          obtain ⟨h1, hm⟩ := ckd hm
          refine va_iast (f := (v 31)) hx hb hK hP0 hD0 hS0 12 0 rfl rfl (inB_vp h1) dX6_see_46 (fun H2 locs2 hP hD hS2 => ?_)
          obtain ⟨v2_, e2, hm⟩ := ltd hm
          have hP2 : va_P D cls (wX6 q a v2_) H2 := by rw [e2]; exact hP
          have hD2 : va_D (va_A (wX6 q a v) s.heap.size) (wX6 q a v2_) := by rw [e2]; exact hD
          clear hP hD hP0 hD0 hS0
          refine lv_aload_n hx hb dX6_see_47 rfl (lv_at hl0 0 rfl) ?_
          refine va_get (D := D) (ci := 6) (v := .ref (a 31)) (C := RX6) (T := TX6) (N := 40) hx hb hW iX6 hown hK hP2 0 rfl rfl 31 (by decide) (hW _ k_898) (fun _ h => h) rfl dX6_see_48 ?_
          refine lv_iconst (v := (3 : Int32)) hx hb dX6_see_51 (by decide) ?_
          refine lv_aload_n hx hb dX6_see_52 rfl (lv_at hl0 0 rfl) ?_
          refine va_get (D := D) (ci := 6) (v := .int (v2_ 0 32)) (C := RX6) (T := TX6) (N := 40) hx hb hW iX6 hown hK hP2 0 rfl rfl 32 (by decide) (hW _ k_899) (fun _ h => h) rfl dX6_see_53 ?_
          refine lv_imul hx hb dX6_see_56 ?_
          refine lv_iconst (v := (1 : Int32)) hx hb dX6_see_57 (by decide) ?_
          refine lv_iadd hx hb dX6_see_58 ?_
          refine lv_iload_n hx hb dX6_see_59 rfl (lv_at hl0 2 rfl) ?_
          obtain ⟨h3, hm⟩ := ckd hm
          refine va_iast (f := (v2_ 31)) hx hb hK hP2 hD2 hS2 12 0 rfl rfl (inB_vp h3) dX6_see_60 (fun H4 locs4 hP hD hS4 => ?_)
          obtain ⟨v4_, e4, hm⟩ := ltd hm
          have hP4 : va_P D cls (wX6 q a v4_) H4 := by rw [e4]; exact hP
          have hD4 : va_D (va_A (wX6 q a v) s.heap.size) (wX6 q a v4_) := by rw [e4]; exact hD
          clear hP hD hP2 hD2 hS2
          refine lv_aload_n hx hb dX6_see_61 rfl (lv_at hl0 0 rfl) ?_
          refine va_get (D := D) (ci := 6) (v := .ref (a 31)) (C := RX6) (T := TX6) (N := 40) hx hb hW iX6 hown hK hP4 0 rfl rfl 31 (by decide) (hW _ k_898) (fun _ h => h) rfl dX6_see_62 ?_
          refine lv_iconst (v := (3 : Int32)) hx hb dX6_see_65 (by decide) ?_
          refine lv_aload_n hx hb dX6_see_66 rfl (lv_at hl0 0 rfl) ?_
          refine va_get (D := D) (ci := 6) (v := .int (v4_ 0 32)) (C := RX6) (T := TX6) (N := 40) hx hb hW iX6 hown hK hP4 0 rfl rfl 32 (by decide) (hW _ k_899) (fun _ h => h) rfl dX6_see_67 ?_
          refine lv_imul hx hb dX6_see_70 ?_
          refine lv_iconst (v := (2 : Int32)) hx hb dX6_see_71 (by decide) ?_
          refine lv_iadd hx hb dX6_see_72 ?_
          refine lv_iload_n hx hb dX6_see_73 rfl (lv_at hl0 3 rfl) ?_
          refine lv_if_eq (tgt := 81) hx hb dX6_see_74 (by decide) (fun c74 => ?_) (fun c74 => ?_)
          · replace hm := tp hm c74
            refine lv_iconst (v := (0 : Int32)) hx hb dX6_see_81 (by decide) ?_
            obtain ⟨h5, hm⟩ := ckd hm
            refine va_iast (f := (v4_ 31)) hx hb hK hP4 hD4 hS4 12 0 rfl rfl (inB_vp h5) dX6_see_82 (fun H6 locs6 hP hD hS6 => ?_)
            obtain ⟨v6_, e6, hm⟩ := ltd hm
            have hP6 : va_P D cls (wX6 q a v6_) H6 := by rw [e6]; exact hP
            have hD6 : va_D (va_A (wX6 q a v) s.heap.size) (wX6 q a v6_) := by rw [e6]; exact hD
            clear hP hD hP4 hD4 hS4
            refine lv_aload_n hx hb dX6_see_83 rfl (lv_at hl0 0 rfl) ?_
            refine lv_dup hx hb dX6_see_84 rfl ?_
            refine va_get (D := D) (ci := 6) (v := .int (v6_ 0 32)) (C := RX6) (T := TX6) (N := 40) hx hb hW iX6 hown hK hP6 0 rfl rfl 32 (by decide) (hW _ k_899) (fun _ h => h) rfl dX6_see_85 ?_
            refine lv_iconst (v := (1 : Int32)) hx hb dX6_see_88 (by decide) ?_
            refine lv_iadd hx hb dX6_see_89 ?_
            refine va_put (D := D) (ci := 6) (v := .int ((v6_ 0 32) + (1 : Int32))) (ty := .int) (C := RX6) (T := TX6) (N := 40) hx hb hW iX6 tyX6 tyX6_ok nmX6 hown hK hP6 hD6 hS6 0 rfl rfl 32 (by decide) (hW _ k_899) (fun _ h => h) rfl (by decide +kernel) rfl rfl (Nat.le_of_ble_eq_true rfl) dX6_see_90 (fun H7 locs7 hP hD hS7 => ?_)
            obtain ⟨v7_, e7, hm⟩ := ltd hm
            have hP7 : va_P D cls (wX6 q a v7_) H7 := by rw [e7]; exact hP
            have hD7 : va_D (va_A (wX6 q a v) s.heap.size) (wX6 q a v7_) := by rw [e7]; exact hD
            clear hP hD hP6 hD6 hS6
            refine lv_aload_n hx hb dX6_see_93 rfl (lv_at hl0 0 rfl) ?_
            refine va_get (D := D) (ci := 6) (v := .int (v7_ 0 32)) (C := RX6) (T := TX6) (N := 40) hx hb hW iX6 hown hK hP7 0 rfl rfl 32 (by decide) (hW _ k_899) (fun _ h => h) rfl dX6_see_94 ?_
            exact eWi (Wf := fun (uu : SV) => wX6 q a uu) (u := v7_) X hr hlocks hP7 hD7 hS7 hm dX6_see_97
          · replace hm := tn hm c74
            refine lv_iconst (v := (1 : Int32)) hx hb dX6_see_77 (by decide) ?_
            refine lv_goto (tgt := 82) hx hb dX6_see_78 (by decide) ?_
            obtain ⟨h8, hm⟩ := ckd hm
            refine va_iast (f := (v4_ 31)) hx hb hK hP4 hD4 hS4 12 0 rfl rfl (inB_vp h8) dX6_see_82 (fun H9 locs9 hP hD hS9 => ?_)
            obtain ⟨v9_, e9, hm⟩ := ltd hm
            have hP9 : va_P D cls (wX6 q a v9_) H9 := by rw [e9]; exact hP
            have hD9 : va_D (va_A (wX6 q a v) s.heap.size) (wX6 q a v9_) := by rw [e9]; exact hD
            clear hP hD hP4 hD4 hS4
            refine lv_aload_n hx hb dX6_see_83 rfl (lv_at hl0 0 rfl) ?_
            refine lv_dup hx hb dX6_see_84 rfl ?_
            refine va_get (D := D) (ci := 6) (v := .int (v9_ 0 32)) (C := RX6) (T := TX6) (N := 40) hx hb hW iX6 hown hK hP9 0 rfl rfl 32 (by decide) (hW _ k_899) (fun _ h => h) rfl dX6_see_85 ?_
            refine lv_iconst (v := (1 : Int32)) hx hb dX6_see_88 (by decide) ?_
            refine lv_iadd hx hb dX6_see_89 ?_
            refine va_put (D := D) (ci := 6) (v := .int ((v9_ 0 32) + (1 : Int32))) (ty := .int) (C := RX6) (T := TX6) (N := 40) hx hb hW iX6 tyX6 tyX6_ok nmX6 hown hK hP9 hD9 hS9 0 rfl rfl 32 (by decide) (hW _ k_899) (fun _ h => h) rfl (by decide +kernel) rfl rfl (Nat.le_of_ble_eq_true rfl) dX6_see_90 (fun H10 locs10 hP hD hS10 => ?_)
            obtain ⟨v10_, e10, hm⟩ := ltd hm
            have hP10 : va_P D cls (wX6 q a v10_) H10 := by rw [e10]; exact hP
            have hD10 : va_D (va_A (wX6 q a v) s.heap.size) (wX6 q a v10_) := by rw [e10]; exact hD
            clear hP hD hP9 hD9 hS9
            refine lv_aload_n hx hb dX6_see_93 rfl (lv_at hl0 0 rfl) ?_
            refine va_get (D := D) (ci := 6) (v := .int (v10_ 0 32)) (C := RX6) (T := TX6) (N := 40) hx hb hW iX6 hown hK hP10 0 rfl rfl 32 (by decide) (hW _ k_899) (fun _ h => h) rfl dX6_see_94 ?_
            exact eWi (Wf := fun (uu : SV) => wX6 q a uu) (u := v10_) X hr hlocks hP10 hD10 hS10 hm dX6_see_97
        · replace hm := tp hm c29
          refine lv_bipush (v := (-3 : Int32)) hx hb dX6_see_32 (by decide) ?_
          exact eWi (Wf := fun (uu : SV) => wX6 q a uu) (u := v) X hr hlocks hP0 hD0 hS0 hm dX6_see_34
      · replace hm := tp hm c18
        refine lv_iconst (v := (-1 : Int32)) hx hb dX6_see_21 (by decide) ?_
        exact eWi (Wf := fun (uu : SV) => wX6 q a uu) (u := v) X hr hlocks hP0 hD0 hS0 hm dX6_see_22
noncomputable def m_X6_forget (v : SV) (x1 : Int32) : Option (Int32 × SV) :=
  (m_X6_in (x1.toInt64) (0 : Int64) ((v 0 32).toInt64)).bind (fun y8 => (if y8 = 0 then some ((-1 : Int32), v) else lett (up2 v 0 32 x1) (fun v2_ => some ((v 0 32), v2_))))
set_option maxHeartbeats 4000000 in
set_option maxRecDepth 100000 in
theorem c_X6_forget (l : Launch) (D : va_G) (q : Nat → ClassId) (sz : Nat) (a : Nat → Nat) (v : SV) (x1 : Int32) (res : Int32 × SV) (hm : m_X6_forget v x1 = some res) : Met l yX6_forget (mw yX6_forget cX6_forget 3 (some .int)) ({ frames := 1, cells := 0, slots := 0, locals := 25 } : Room) (pcW D q (wX6 q a v) sz [.ref (a 99), .int x1]) (va_Qi (fun r w => r = res.1 ∧ w = res.2) (bW D q (wX6 q a v) sz (fun (uu : SV) => wX6 q a uu)) (va_A (wX6 q a v) sz)) 0 0 (va_A (wX6 q a v) sz) := by
  refine Met.ofW (cc := cX6_forget) (maxL := 3) (ret := (some .int)) (by decide) rfl ?_
  intro p e s m args below meth c s₁ B hml hv
  obtain ⟨rfl, hsz, hP0, hK, hD0⟩ := hv
  have hx := B.exec
  have hb := B.bytes
  have hr := B.returns
  have hW := mw_ws (atoms_spec (ws := mw yX6_forget cX6_forget 3 (some .int)) B.pre)
  have hown : s.vm.findClass RX6 = some m.cls := findClass_of_methodNamed B.named
  have hlocks := B.notSynchronized
  have X : Cx p s m [.ref (a 99), .int x1].toArray c cX6_forget 3 RX6 D q := ⟨hx, hb, hml, hown, hW, hK⟩
  subst hsz
  replace hD0 := hD0.self (sz := s.heap.size)
  have hS0 : va_S (va_A (wX6 q a v) s.heap.size) s.heap s.heap [] := va_S.rf
  have hl0 := lv_entry ([.ref (a 99), .int x1]) (n := 3) (Nat.le_of_ble_eq_true rfl)
  rw [lg_entry_eq]
  generalize (lg_sl ([.ref (a 99), .int x1]) ++ List.replicate (3 - (lg_sl ([.ref (a 99), .int x1])).length) Slot.unset).toArray = ls0 at hl0 ⊢
  have hl0 : lv_has ls0 3 [(0, .ref (a 99)), (1, .int x1)] := hl0
  unfold m_X6_forget at hm
  refine lv_iload_n hx hb dX6_forget_0 rfl (lv_at hl0 1 rfl) ?_
  refine lv_i2l hx hb dX6_forget_1 rfl ?_
  refine lv_lconst (v := (0 : Int64)) hx hb dX6_forget_2 (by decide) ?_
  refine lv_aload_n hx hb dX6_forget_3 rfl (lv_at hl0 0 rfl) ?_
  refine va_get (D := D) (ci := 6) (v := .int (v 0 32)) (C := RX6) (T := TX6) (N := 40) hx hb hW iX6 hown hK hP0 0 rfl rfl 32 (by decide) (hW _ k_899) (fun _ h => h) rfl dX6_forget_4 ?_
  refine lv_i2l hx hb dX6_forget_7 rfl ?_
  obtain ⟨y8, hy8, hm⟩ := bn hm
  refine cSRi (As := [.long (x1.toInt64), .long (0 : Int64), .long ((v 0 32).toInt64)]) (rest := []) X hP0 hl0.1 (c_X6_in l D q (x1.toInt64) (0 : Int64) ((v 0 32).toInt64) y8 hy8) [] rfl k_993 mX6_in ⟨rfl, rfl⟩ ⟨Nat.le_of_ble_eq_true rfl, Nat.le_of_ble_eq_true rfl⟩ rfl rfl (Nat.le_of_ble_eq_true rfl) dX6_forget_8 ⟨Nat.zero_le _, Nat.zero_le _⟩ ?_
  refine lv_if_ne (tgt := 16) hx hb dX6_forget_11 (by decide) (fun c11 => ?_) (fun c11 => ?_)
  · replace hm := tn hm c11
    refine lv_aload_n hx hb dX6_forget_16 rfl (lv_at hl0 0 rfl) ?_
    refine va_get (D := D) (ci := 6) (v := .int (v 0 32)) (C := RX6) (T := TX6) (N := 40) hx hb hW iX6 hown hK hP0 0 rfl rfl 32 (by decide) (hW _ k_899) (fun _ h => h) rfl dX6_forget_17 ?_
    refine lv_istore_n (lv' := [(2, .int (v 0 32)), (0, .ref (a 99)), (1, .int x1)]) hx hb dX6_forget_20 rfl hl0 (by decide) rfl (fun ls1 hl1 => ?_)
    clear hl0
    refine lv_aload_n hx hb dX6_forget_21 rfl (lv_at hl1 1 rfl) ?_
    refine lv_iload_n hx hb dX6_forget_22 rfl (lv_at hl1 2 rfl) ?_
    refine va_put (D := D) (ci := 6) (v := .int x1) (ty := .int) (C := RX6) (T := TX6) (N := 40) hx hb hW iX6 tyX6 tyX6_ok nmX6 hown hK hP0 hD0 hS0 0 rfl rfl 32 (by decide) (hW _ k_899) (fun _ h => h) rfl (by decide +kernel) rfl rfl (Nat.le_of_ble_eq_true rfl) dX6_forget_23 (fun H2 locs2 hP hD hS2 => ?_)
    obtain ⟨v2_, e2, hm⟩ := ltd hm
    have hP2 : va_P D cls (wX6 q a v2_) H2 := by rw [e2]; exact hP
    have hD2 : va_D (va_A (wX6 q a v) s.heap.size) (wX6 q a v2_) := by rw [e2]; exact hD
    clear hP hD hP0 hD0 hS0
    refine lv_iload_n hx hb dX6_forget_26 rfl (lv_at hl1 0 rfl) ?_
    exact eWi (Wf := fun (uu : SV) => wX6 q a uu) (u := v2_) X hr hlocks hP2 hD2 hS2 hm dX6_forget_27
  · replace hm := tp hm c11
    refine lv_iconst (v := (-1 : Int32)) hx hb dX6_forget_14 (by decide) ?_
    exact eWi (Wf := fun (uu : SV) => wX6 q a uu) (u := v) X hr hlocks hP0 hD0 hS0 hm dX6_forget_15
noncomputable def m_X6_isPossible_K8 (y2 : Int32 × SV) (z8 : Int32 × Int32) : Option (Int32 × SV) :=
  ck (nzB z8.1) (some (z8.1, y2.2))
noncomputable def m_X6_isPossible_J56 (y2 : Int32 × SV) (z8 : Int32 × Int32) (z56 : Int32) : Option ((Int32 × Int32) ⊕ (Int32 × Int32)) :=
  ck (inB (((3 : Int32) * z8.2) + (2 : Int32)) 18) ((if z56 = (y2.2 31 (((((3 : Int32) * z8.2) + (2 : Int32))).toNatClampNeg)) then some (.inl ((1 : Int32), (z8.2 + (1 : Int32)))) else some (.inl ((0 : Int32), (z8.2 + (1 : Int32))))))
noncomputable def m_X6_isPossible_L8 (y2 : Int32 × SV) (z8 : Int32 × Int32) : Option ((Int32 × Int32) ⊕ (Int32 × Int32)) :=
  (if (y2.2 0 32) ≤ z8.2 then some (.inr (z8.1, z8.2)) else (if z8.1 = 0 then some (.inl ((0 : Int32), (z8.2 + (1 : Int32)))) else ck (inB ((3 : Int32) * z8.2) 18) (ck (inB (y2.2 31 ((((3 : Int32) * z8.2)).toNatClampNeg)) 6) (ck (inB (((3 : Int32) * z8.2) + (1 : Int32)) 18) (ck (inB (y2.2 31 (((((3 : Int32) * z8.2) + (1 : Int32))).toNatClampNeg)) 6) ((if (y2.2 30 (((y2.2 31 ((((3 : Int32) * z8.2)).toNatClampNeg))).toNatClampNeg)) = (y2.2 30 (((y2.2 31 (((((3 : Int32) * z8.2) + (1 : Int32))).toNatClampNeg))).toNatClampNeg)) then m_X6_isPossible_J56 y2 z8 (1 : Int32) else m_X6_isPossible_J56 y2 z8 (0 : Int32))))))))
noncomputable def m_X6_isPossible (v : SV) (x1 : Int32) : Option (Int32 × SV) :=
  (m_X6_laysPicture v x1).bind (fun y2 => (lpC (m_X6_isPossible_L8 y2) (y2.1, (0 : Int32))).bind (m_X6_isPossible_K8 y2))
set_option maxHeartbeats 4000000 in
set_option maxRecDepth 100000 in
theorem c_X6_isPossible (l : Launch) (D : va_G) (q : Nat → ClassId) (sz : Nat) (a : Nat → Nat) (v : SV) (x1 : Int32) (res : Int32 × SV) (hm : m_X6_isPossible v x1 = some res) : Met l yX6_isPossible (mw yX6_isPossible cX6_isPossible 4 (some .boolean)) ({ frames := 4, cells := 0, slots := 0, locals := 96 } : Room) (pcW D q (wX6 q a v) sz [.ref (a 99), .int x1]) (va_Qi (fun r w => r = res.1 ∧ w = res.2) (bW D q (wX6 q a v) sz (fun (uu : SV) => wX6 q a uu)) (va_A (wX6 q a v) sz)) 0 0 (va_A (wX6 q a v) sz) := by
  refine Met.ofW (cc := cX6_isPossible) (maxL := 4) (ret := (some .boolean)) (by decide) rfl ?_
  intro p e s m args below meth c s₁ B hml hv
  obtain ⟨rfl, hsz, hP0, hK, hD0⟩ := hv
  have hx := B.exec
  have hb := B.bytes
  have hr := B.returns
  have hW := mw_ws (atoms_spec (ws := mw yX6_isPossible cX6_isPossible 4 (some .boolean)) B.pre)
  have hown : s.vm.findClass RX6 = some m.cls := findClass_of_methodNamed B.named
  have hlocks := B.notSynchronized
  have X : Cx p s m [.ref (a 99), .int x1].toArray c cX6_isPossible 4 RX6 D q := ⟨hx, hb, hml, hown, hW, hK⟩
  subst hsz
  replace hD0 := hD0.self (sz := s.heap.size)
  have hS0 : va_S (va_A (wX6 q a v) s.heap.size) s.heap s.heap [] := va_S.rf
  have hl0 := lv_entry ([.ref (a 99), .int x1]) (n := 4) (Nat.le_of_ble_eq_true rfl)
  rw [lg_entry_eq]
  generalize (lg_sl ([.ref (a 99), .int x1]) ++ List.replicate (4 - (lg_sl ([.ref (a 99), .int x1])).length) Slot.unset).toArray = ls0 at hl0 ⊢
  have hl0 : lv_has ls0 4 [(0, .ref (a 99)), (1, .int x1)] := hl0
  unfold m_X6_isPossible at hm
  refine lv_aload_n hx hb dX6_isPossible_0 rfl (lv_at hl0 0 rfl) ?_
  refine lv_iload_n hx hb dX6_isPossible_1 rfl (lv_at hl0 1 rfl) ?_
  obtain ⟨y2, hy2, hm⟩ := bn hm
  refine cVWi (As := [.int x1]) (rest := []) (Wn := fun (uu : SV) => wX6 q a uu) X hP0 hD0 hS0 (fun _ h => Or.inr h) hl0.1 (c_X6_laysPicture l D q s.heap.size a v x1 y2 hy2) [0, 1, 2, 3, 4, 5, 6, 7, 8, 9, 10, 11, 12, 13, 14, 15, 16, 17] [] [0, 1, 2, 3, 4, 5, 6, 7, 8, 9, 10, 11, 12, 13, 14, 15, 16, 17] rfl (Wr := []) rfl (by decide) (by decide) (by decide) (by decide) (fun _ => rfl) 0 rfl rfl rfl k_1203 mX6_laysPicture ⟨rfl, rfl⟩ ⟨Nat.le_of_ble_eq_true rfl, Nat.le_of_ble_eq_true rfl⟩ rfl rfl (Nat.le_of_ble_eq_true rfl) dX6_isPossible_2 ⟨Nat.zero_le _, Nat.zero_le _⟩ (fun H1 locs1 hP hD hS1 => ?_)
  have hP1 : va_P D cls (wX6 q a y2.2) H1 := hP
  have hD1 : va_D (va_A (wX6 q a v) s.heap.size) (wX6 q a y2.2) := hD
  clear hP hD hP0 hD0 hS0
  refine lv_istore_n (lv' := [(2, .int y2.1), (0, .ref (a 99)), (1, .int x1)]) hx hb dX6_isPossible_5 rfl hl0 (by decide) rfl (fun ls2 hl2 => ?_)
  clear hl0
  refine lv_iconst (v := (0 : Int32)) hx hb dX6_isPossible_6 (by decide) ?_
  refine lv_istore_n (lv' := [(3, .int (0 : Int32)), (2, .int y2.1), (0, .ref (a 99)), (1, .int x1)]) hx hb dX6_isPossible_7 rfl hl2 (by decide) rfl (fun ls3 hl3 => ?_)
  clear hl2
  obtain ⟨r8, hr8, hm⟩ := bn hm
  obtain ⟨n8, hn8⟩ := lpC_ex hr8
  have hE8 : ∀ z8 : Int32 × Int32, m_X6_isPossible_K8 y2 z8 = some res → ∀ (H : Heap) (locs : List Loc), va_P D cls (wX6 q a y2.2) H → va_D (va_A (wX6 q a v) s.heap.size) (wX6 q a y2.2) → va_S (va_A (wX6 q a v) s.heap.size) s.heap H locs → ∀ ls : Array Slot, lv_has ls 4 [(2, .int z8.1)] → W p l e ((headSpec (mw yX6_isPossible cX6_isPossible 4 (some .boolean)) ({ frames := 4, cells := 0, slots := 0, locals := 96 } : Room)).room) s m [.ref (a 99), .int x1].toArray below meth c H locs 0 0 (MQ below (va_Qi (fun r w => r = res.1 ∧ w = res.2) (bW D q (wX6 q a v) s.heap.size (fun (uu : SV) => wX6 q a uu)) (va_A (wX6 q a v) s.heap.size)) [.ref (a 99), .int x1].toArray s 0 0 (va_A (wX6 q a v) s.heap.size)) (F0 m 81 ls []) := by
    intro z8 hm H7 locs7 hP7 hD7 hS7 ls6 hl6
    unfold m_X6_isPossible_K8 at hm
    refine lv_iload_n hx hb dX6_isPossible_81 rfl (lv_at hl6 0 rfl) ?_
    obtain ⟨hz0, hm⟩ := ckd hm
    have hnz := nz_nar hz0
    exact eWz (Wf := fun (uu : SV) => wX6 q a uu) (u := y2.2) X hr hlocks hnz hP7 hD7 hS7 hm dX6_isPossible_82
  have hL8 : ∀ (n : Nat) (z8 : Int32 × Int32) (ρ8 : Int32 × Int32), lpO (m_X6_isPossible_L8 y2) n z8 = some ρ8 → (m_X6_isPossible_K8 y2) ρ8 = some res → ∀ (H : Heap) (locs : List Loc), va_P D cls (wX6 q a y2.2) H → va_D (va_A (wX6 q a v) s.heap.size) (wX6 q a y2.2) → va_S (va_A (wX6 q a v) s.heap.size) s.heap H locs → ∀ ls : Array Slot, lv_has ls 4 [(0, .ref (a 99)), (2, .int z8.1), (3, .int z8.2)] → W p l e ((headSpec (mw yX6_isPossible cX6_isPossible 4 (some .boolean)) ({ frames := 4, cells := 0, slots := 0, locals := 96 } : Room)).room) s m [.ref (a 99), .int x1].toArray below meth c H locs 0 0 (MQ below (va_Qi (fun r w => r = res.1 ∧ w = res.2) (bW D q (wX6 q a v) s.heap.size (fun (uu : SV) => wX6 q a uu)) (va_A (wX6 q a v) s.heap.size)) [.ref (a 99), .int x1].toArray s 0 0 (va_A (wX6 q a v) s.heap.size)) (F0 m 8 ls []) := by
    intro n
    induction n with
    | zero => intro _ _ h; cases h
    | succ n ih8 =>
      intro z8 ρ8 hz8 hK8 H5 locs5 hP5 hD5 hS5 ls4 hl4
      obtain ⟨t8, hm, hz8⟩ := bn hz8
      unfold m_X6_isPossible_L8 at hm
      refine lv_iload_n hx hb dX6_isPossible_8 rfl (lv_at hl4 2 rfl) ?_
      refine lv_aload_n hx hb dX6_isPossible_9 rfl (lv_at hl4 0 rfl) ?_
      refine va_get (D := D) (ci := 6) (v := .int (y2.2 0 32)) (C := RX6) (T := TX6) (N := 40) hx hb hW iX6 hown hK hP5 0 rfl rfl 32 (by decide) (hW _ k_899) (fun _ h => h) rfl dX6_isPossible_10 ?_
      refine lv_icmp_ge (tgt := 81) hx hb dX6_isPossible_13 (by decide) (fun c13 => ?_) (fun c13 => ?_)
      · replace hm := tp hm c13
        cases hm
        cases hz8
        exact hE8 (z8.1, z8.2) hK8 _ _ hP5 hD5 hS5 _ (lv_sub hl4 [1] rfl)
      · replace hm := tn hm c13
        refine lv_iload_n hx hb dX6_isPossible_16 rfl (lv_at hl4 1 rfl) ?_
        refine lv_if_eq (tgt := 73) hx hb dX6_isPossible_17 (by decide) (fun c17 => ?_) (fun c17 => ?_)
        · replace hm := tp hm c17
          refine lv_iconst (v := (0 : Int32)) hx hb dX6_isPossible_73 (by decide) ?_
          refine lv_istore_n (lv' := [(2, .int (0 : Int32)), (0, .ref (a 99)), (3, .int z8.2)]) hx hb dX6_isPossible_74 rfl hl4 (by decide) rfl (fun ls8 hl8 => ?_)
          clear hl4
          refine lv_iinc (v := (z8.2 + (1 : Int32))) (lv' := [(3, .int (z8.2 + (1 : Int32))), (2, .int (0 : Int32)), (0, .ref (a 99))]) hx hb dX6_isPossible_75 hl8 (k := 2) rfl rfl (by decide) rfl (fun ls9 hl9 => ?_)
          clear hl8
          refine lv_goto (tgt := 8) hx hb dX6_isPossible_78 (by decide) ?_
          cases hm
          exact ih8 ((0 : Int32), (z8.2 + (1 : Int32))) ρ8 hz8 hK8 _ _ hP5 hD5 hS5 _ (lv_sub hl9 [2, 1, 0] rfl)
        · replace hm := tn hm c17
          refine lv_aload_n hx hb dX6_isPossible_20 rfl (lv_at hl4 0 rfl) ?_
          refine va_get (D := D) (ci := 6) (v := .ref (a 30)) (C := RX6) (T := TX6) (N := 40) hx hb hW iX6 hown hK hP5 0 rfl rfl 30 (by decide) (hW _ k_897) (fun _ h => h) rfl dX6_isPossible_21 ?_
          refine lv_aload_n hx hb dX6_isPossible_24 rfl (lv_at hl4 0 rfl) ?_
          refine va_get (D := D) (ci := 6) (v := .ref (a 31)) (C := RX6) (T := TX6) (N := 40) hx hb hW iX6 hown hK hP5 0 rfl rfl 31 (by decide) (hW _ k_898) (fun _ h => h) rfl dX6_isPossible_25 ?_
          refine lv_iconst (v := (3 : Int32)) hx hb dX6_isPossible_28 (by decide) ?_
          refine lv_iload_n hx hb dX6_isPossible_29 rfl (lv_at hl4 2 rfl) ?_
          refine lv_imul hx hb dX6_isPossible_30 ?_
          obtain ⟨h10, hm⟩ := ckd hm
          refine va_iald (f := (y2.2 31)) hx hb hK hP5 12 0 rfl rfl (inB_vp h10) dX6_isPossible_31 ?_
          obtain ⟨h11, hm⟩ := ckd hm
          refine va_iald (f := (y2.2 30)) hx hb hK hP5 11 0 rfl rfl (inB_vp h11) dX6_isPossible_32 ?_
          refine lv_aload_n hx hb dX6_isPossible_33 rfl (lv_at hl4 0 rfl) ?_
          refine va_get (D := D) (ci := 6) (v := .ref (a 30)) (C := RX6) (T := TX6) (N := 40) hx hb hW iX6 hown hK hP5 0 rfl rfl 30 (by decide) (hW _ k_897) (fun _ h => h) rfl dX6_isPossible_34 ?_
          refine lv_aload_n hx hb dX6_isPossible_37 rfl (lv_at hl4 0 rfl) ?_
          refine va_get (D := D) (ci := 6) (v := .ref (a 31)) (C := RX6) (T := TX6) (N := 40) hx hb hW iX6 hown hK hP5 0 rfl rfl 31 (by decide) (hW _ k_898) (fun _ h => h) rfl dX6_isPossible_38 ?_
          refine lv_iconst (v := (3 : Int32)) hx hb dX6_isPossible_41 (by decide) ?_
          refine lv_iload_n hx hb dX6_isPossible_42 rfl (lv_at hl4 2 rfl) ?_
          refine lv_imul hx hb dX6_isPossible_43 ?_
          refine lv_iconst (v := (1 : Int32)) hx hb dX6_isPossible_44 (by decide) ?_
          refine lv_iadd hx hb dX6_isPossible_45 ?_
          obtain ⟨h12, hm⟩ := ckd hm
          refine va_iald (f := (y2.2 31)) hx hb hK hP5 12 0 rfl rfl (inB_vp h12) dX6_isPossible_46 ?_
          obtain ⟨h13, hm⟩ := ckd hm
          refine va_iald (f := (y2.2 30)) hx hb hK hP5 11 0 rfl rfl (inB_vp h13) dX6_isPossible_47 ?_
          have hJ56 : ∀ z56 : Int32, m_X6_isPossible_J56 y2 z8 z56 = some t8 → ∀ (H : Heap) (locs : List Loc), va_P D cls (wX6 q a y2.2) H → va_D (va_A (wX6 q a v) s.heap.size) (wX6 q a y2.2) → va_S (va_A (wX6 q a v) s.heap.size) s.heap H locs → ∀ ls : Array Slot, lv_has ls 4 [(0, .ref (a 99)), (3, .int z8.2)] → W p l e ((headSpec (mw yX6_isPossible cX6_isPossible 4 (some .boolean)) ({ frames := 4, cells := 0, slots := 0, locals := 96 } : Room)).room) s m [.ref (a 99), .int x1].toArray below meth c H locs 0 0 (MQ below (va_Qi (fun r w => r = res.1 ∧ w = res.2) (bW D q (wX6 q a v) s.heap.size (fun (uu : SV) => wX6 q a uu)) (va_A (wX6 q a v) s.heap.size)) [.ref (a 99), .int x1].toArray s 0 0 (va_A (wX6 q a v) s.heap.size)) (F0 m 56 ls [.int z56]) := by
            intro z56 hm H15 locs15 hP15 hD15 hS15 ls14 hl14
            unfold m_X6_isPossible_J56 at hm
            refine lv_aload_n hx hb dX6_isPossible_56 rfl (lv_at hl14 0 rfl) ?_
            refine va_get (D := D) (ci := 6) (v := .ref (a 31)) (C := RX6) (T := TX6) (N := 40) hx hb hW iX6 hown hK hP15 0 rfl rfl 31 (by decide) (hW _ k_898) (fun _ h => h) rfl dX6_isPossible_57 ?_
            refine lv_iconst (v := (3 : Int32)) hx hb dX6_isPossible_60 (by decide) ?_
            refine lv_iload_n hx hb dX6_isPossible_61 rfl (lv_at hl14 1 rfl) ?_
            refine lv_imul hx hb dX6_isPossible_62 ?_
            refine lv_iconst (v := (2 : Int32)) hx hb dX6_isPossible_63 (by decide) ?_
            refine lv_iadd hx hb dX6_isPossible_64 ?_
            obtain ⟨h16, hm⟩ := ckd hm
            refine va_iald (f := (y2.2 31)) hx hb hK hP15 12 0 rfl rfl (inB_vp h16) dX6_isPossible_65 ?_
            refine lv_icmp_ne (tgt := 73) hx hb dX6_isPossible_66 (by decide) (fun c66 => ?_) (fun c66 => ?_)
            · replace hm := tn hm c66
              refine lv_iconst (v := (0 : Int32)) hx hb dX6_isPossible_73 (by decide) ?_
              refine lv_istore_n (lv' := [(2, .int (0 : Int32)), (0, .ref (a 99)), (3, .int z8.2)]) hx hb dX6_isPossible_74 rfl hl14 (by decide) rfl (fun ls19 hl19 => ?_)
              clear hl14
              refine lv_iinc (v := (z8.2 + (1 : Int32))) (lv' := [(3, .int (z8.2 + (1 : Int32))), (2, .int (0 : Int32)), (0, .ref (a 99))]) hx hb dX6_isPossible_75 hl19 (k := 2) rfl rfl (by decide) rfl (fun ls20 hl20 => ?_)
              clear hl19
              refine lv_goto (tgt := 8) hx hb dX6_isPossible_78 (by decide) ?_
              cases hm
              exact ih8 ((0 : Int32), (z8.2 + (1 : Int32))) ρ8 hz8 hK8 _ _ hP15 hD15 hS15 _ (lv_sub hl20 [2, 1, 0] rfl)
            · replace hm := tp hm c66
              refine lv_iconst (v := (1 : Int32)) hx hb dX6_isPossible_69 (by decide) ?_
              refine lv_goto (tgt := 74) hx hb dX6_isPossible_70 (by decide) ?_
              refine lv_istore_n (lv' := [(2, .int (1 : Int32)), (0, .ref (a 99)), (3, .int z8.2)]) hx hb dX6_isPossible_74 rfl hl14 (by decide) rfl (fun ls17 hl17 => ?_)
              clear hl14
              refine lv_iinc (v := (z8.2 + (1 : Int32))) (lv' := [(3, .int (z8.2 + (1 : Int32))), (2, .int (1 : Int32)), (0, .ref (a 99))]) hx hb dX6_isPossible_75 hl17 (k := 2) rfl rfl (by decide) rfl (fun ls18 hl18 => ?_)
              clear hl17
              refine lv_goto (tgt := 8) hx hb dX6_isPossible_78 (by decide) ?_
              cases hm
              exact ih8 ((1 : Int32), (z8.2 + (1 : Int32))) ρ8 hz8 hK8 _ _ hP15 hD15 hS15 _ (lv_sub hl18 [2, 1, 0] rfl)
          refine lv_icmp_ne (tgt := 55) hx hb dX6_isPossible_48 (by decide) (fun c48 => ?_) (fun c48 => ?_)
          · replace hm := tn hm c48
            refine lv_iconst (v := (0 : Int32)) hx hb dX6_isPossible_55 (by decide) ?_
            exact hJ56 (0 : Int32) hm _ _ hP5 hD5 hS5 _ (lv_sub hl4 [0, 2] rfl)
          · replace hm := tp hm c48
            refine lv_iconst (v := (1 : Int32)) hx hb dX6_isPossible_51 (by decide) ?_
            refine lv_goto (tgt := 56) hx hb dX6_isPossible_52 (by decide) ?_
            exact hJ56 (1 : Int32) hm _ _ hP5 hD5 hS5 _ (lv_sub hl4 [0, 2] rfl)
  exact hL8 n8 (y2.1, (0 : Int32)) r8 hn8 hm _ _ hP1 hD1 hS1 _ (lv_sub hl3 [2, 1, 0] rfl)
noncomputable def m_X6_fits_K20 (x1 : Int32) (z20 : Int32 × Int32 × Int32 × SV) : Option (Int32 × SV) :=
  (if x1 = 0 then some (z20.1, z20.2.2.2) else some (z20.2.1, z20.2.2.2))
noncomputable def m_X6_fits_L20 (z20 : Int32 × Int32 × Int32 × SV) : Option ((Int32 × Int32 × Int32 × SV) ⊕ (Int32 × Int32 × Int32 × SV)) :=
  (m_X6_pictures z20.2.2.2).bind (fun y23 => (if y23 ≤ z20.2.2.1 then some (.inr (z20.1, z20.2.1, z20.2.2.1, z20.2.2.2)) else (m_X6_isPossible z20.2.2.2 z20.2.2.1).bind (fun y32 => (if y32.1 = 0 then (if y32.1 = 0 then some (.inl ((z20.1 + (0 : Int32)), z20.2.1, (z20.2.2.1 + (1 : Int32)), y32.2)) else some (.inl ((z20.1 + (1 : Int32)), z20.2.1, (z20.2.2.1 + (1 : Int32)), y32.2))) else (if z20.1 = 0 then (if y32.1 = 0 then some (.inl ((z20.1 + (0 : Int32)), z20.2.2.1, (z20.2.2.1 + (1 : Int32)), y32.2)) else some (.inl ((z20.1 + (1 : Int32)), z20.2.2.1, (z20.2.2.1 + (1 : Int32)), y32.2))) else (if y32.1 = 0 then some (.inl ((z20.1 + (0 : Int32)), z20.2.1, (z20.2.2.1 + (1 : Int32)), y32.2)) else some (.inl ((z20.1 + (1 : Int32)), z20.2.1, (z20.2.2.1 + (1 : Int32)), y32.2))))))))
noncomputable def m_X6_fits (v : SV) (x1 : Int32) : Option (Int32 × SV) :=
  (m_X6_in (x1.toInt64) (0 : Int64) (1 : Int64)).bind (fun y4 => (if y4 = 0 then some ((-1 : Int32), v) else (lpC (m_X6_fits_L20) ((0 : Int32), (-4 : Int32), (0 : Int32), v)).bind (m_X6_fits_K20 x1)))
set_option maxHeartbeats 4000000 in
set_option maxRecDepth 100000 in
theorem c_X6_fits (l : Launch) (D : va_G) (q : Nat → ClassId) (sz : Nat) (a : Nat → Nat) (v : SV) (x1 : Int32) (res : Int32 × SV) (hm : m_X6_fits v x1 = some res) : Met l yX6_fits (mw yX6_fits cX6_fits 6 (some .int)) ({ frames := 5, cells := 0, slots := 0, locals := 119 } : Room) (pcW D q (wX6 q a v) sz [.ref (a 99), .int x1]) (va_Qi (fun r w => r = res.1 ∧ w = res.2) (bW D q (wX6 q a v) sz (fun (uu : SV) => wX6 q a uu)) (va_A (wX6 q a v) sz)) 0 0 (va_A (wX6 q a v) sz) := by
  refine Met.ofW (cc := cX6_fits) (maxL := 6) (ret := (some .int)) (by decide) rfl ?_
  intro p e s m args below meth c s₁ B hml hv
  obtain ⟨rfl, hsz, hP0, hK, hD0⟩ := hv
  have hx := B.exec
  have hb := B.bytes
  have hr := B.returns
  have hW := mw_ws (atoms_spec (ws := mw yX6_fits cX6_fits 6 (some .int)) B.pre)
  have hown : s.vm.findClass RX6 = some m.cls := findClass_of_methodNamed B.named
  have hlocks := B.notSynchronized
  have X : Cx p s m [.ref (a 99), .int x1].toArray c cX6_fits 6 RX6 D q := ⟨hx, hb, hml, hown, hW, hK⟩
  subst hsz
  replace hD0 := hD0.self (sz := s.heap.size)
  have hS0 : va_S (va_A (wX6 q a v) s.heap.size) s.heap s.heap [] := va_S.rf
  have hl0 := lv_entry ([.ref (a 99), .int x1]) (n := 6) (Nat.le_of_ble_eq_true rfl)
  rw [lg_entry_eq]
  generalize (lg_sl ([.ref (a 99), .int x1]) ++ List.replicate (6 - (lg_sl ([.ref (a 99), .int x1])).length) Slot.unset).toArray = ls0 at hl0 ⊢
  have hl0 : lv_has ls0 6 [(0, .ref (a 99)), (1, .int x1)] := hl0
  unfold m_X6_fits at hm
  refine lv_iload_n hx hb dX6_fits_0 rfl (lv_at hl0 1 rfl) ?_
  refine lv_i2l hx hb dX6_fits_1 rfl ?_
  refine lv_lconst (v := (0 : Int64)) hx hb dX6_fits_2 (by decide) ?_
  refine lv_lconst (v := (1 : Int64)) hx hb dX6_fits_3 (by decide) ?_
  obtain ⟨y4, hy4, hm⟩ := bn hm
  refine cSRi (As := [.long (x1.toInt64), .long (0 : Int64), .long (1 : Int64)]) (rest := []) X hP0 hl0.1 (c_X6_in l D q (x1.toInt64) (0 : Int64) (1 : Int64) y4 hy4) [] rfl k_993 mX6_in ⟨rfl, rfl⟩ ⟨Nat.le_of_ble_eq_true rfl, Nat.le_of_ble_eq_true rfl⟩ rfl rfl (Nat.le_of_ble_eq_true rfl) dX6_fits_4 ⟨Nat.zero_le _, Nat.zero_le _⟩ ?_
  refine lv_if_ne (tgt := 12) hx hb dX6_fits_7 (by decide) (fun c7 => ?_) (fun c7 => ?_)
  · replace hm := tn hm c7
    refine lv_iconst (v := (0 : Int32)) hx hb dX6_fits_12 (by decide) ?_
    refine lv_istore_n (lv' := [(2, .int (0 : Int32)), (0, .ref (a 99)), (1, .int x1)]) hx hb dX6_fits_13 rfl hl0 (by decide) rfl (fun ls1 hl1 => ?_)
    clear hl0
    refine lv_bipush (v := (-4 : Int32)) hx hb dX6_fits_14 (by decide) ?_
    refine lv_istore_n (lv' := [(3, .int (-4 : Int32)), (2, .int (0 : Int32)), (0, .ref (a 99)), (1, .int x1)]) hx hb dX6_fits_16 rfl hl1 (by decide) rfl (fun ls2 hl2 => ?_)
    clear hl1
    refine lv_iconst (v := (0 : Int32)) hx hb dX6_fits_17 (by decide) ?_
    refine lv_istore (lv' := [(4, .int (0 : Int32)), (3, .int (-4 : Int32)), (2, .int (0 : Int32)), (0, .ref (a 99)), (1, .int x1)]) hx hb dX6_fits_18 hl2 (by decide) rfl (fun ls3 hl3 => ?_)
    clear hl2
    obtain ⟨r20, hr20, hm⟩ := bn hm
    obtain ⟨n20, hn20⟩ := lpC_ex hr20
    have hE20 : ∀ z20 : Int32 × Int32 × Int32 × SV, m_X6_fits_K20 x1 z20 = some res → ∀ (H : Heap) (locs : List Loc), va_P D cls (wX6 q a z20.2.2.2) H → va_D (va_A (wX6 q a v) s.heap.size) (wX6 q a z20.2.2.2) → va_S (va_A (wX6 q a v) s.heap.size) s.heap H locs → ∀ ls : Array Slot, lv_has ls 6 [(1, .int x1), (2, .int z20.1), (3, .int z20.2.1)] → W p l e ((headSpec (mw yX6_fits cX6_fits 6 (some .int)) ({ frames := 5, cells := 0, slots := 0, locals := 119 } : Room)).room) s m [.ref (a 99), .int x1].toArray below meth c H locs 0 0 (MQ below (va_Qi (fun r w => r = res.1 ∧ w = res.2) (bW D q (wX6 q a v) s.heap.size (fun (uu : SV) => wX6 q a uu)) (va_A (wX6 q a v) s.heap.size)) [.ref (a 99), .int x1].toArray s 0 0 (va_A (wX6 q a v) s.heap.size)) (F0 m 72 ls []) := by
      intro z20 hm H7 locs7 hP7 hD7 hS7 ls6 hl6
      unfold m_X6_fits_K20 at hm
      refine lv_iload_n hx hb dX6_fits_72 rfl (lv_at hl6 0 rfl) ?_
      refine lv_if_ne (tgt := 80) hx hb dX6_fits_73 (by decide) (fun c73 => ?_) (fun c73 => ?_)
      · replace hm := tn hm c73
        refine lv_iload_n hx hb dX6_fits_80 rfl (lv_at hl6 2 rfl) ?_
        exact eWi (Wf := fun (uu : SV) => wX6 q a uu) (u := z20.2.2.2) X hr hlocks hP7 hD7 hS7 hm dX6_fits_81
      · replace hm := tp hm c73
        refine lv_iload_n hx hb dX6_fits_76 rfl (lv_at hl6 1 rfl) ?_
        refine lv_goto (tgt := 81) hx hb dX6_fits_77 (by decide) ?_
        exact eWi (Wf := fun (uu : SV) => wX6 q a uu) (u := z20.2.2.2) X hr hlocks hP7 hD7 hS7 hm dX6_fits_81
    have hL20 : ∀ (n : Nat) (z20 : Int32 × Int32 × Int32 × SV) (ρ20 : Int32 × Int32 × Int32 × SV), lpO (m_X6_fits_L20) n z20 = some ρ20 → (m_X6_fits_K20 x1) ρ20 = some res → ∀ (H : Heap) (locs : List Loc), va_P D cls (wX6 q a z20.2.2.2) H → va_D (va_A (wX6 q a v) s.heap.size) (wX6 q a z20.2.2.2) → va_S (va_A (wX6 q a v) s.heap.size) s.heap H locs → ∀ ls : Array Slot, lv_has ls 6 [(0, .ref (a 99)), (1, .int x1), (2, .int z20.1), (3, .int z20.2.1), (4, .int z20.2.2.1)] → W p l e ((headSpec (mw yX6_fits cX6_fits 6 (some .int)) ({ frames := 5, cells := 0, slots := 0, locals := 119 } : Room)).room) s m [.ref (a 99), .int x1].toArray below meth c H locs 0 0 (MQ below (va_Qi (fun r w => r = res.1 ∧ w = res.2) (bW D q (wX6 q a v) s.heap.size (fun (uu : SV) => wX6 q a uu)) (va_A (wX6 q a v) s.heap.size)) [.ref (a 99), .int x1].toArray s 0 0 (va_A (wX6 q a v) s.heap.size)) (F0 m 20 ls []) := by
      intro n
      induction n with
      | zero => intro _ _ h; cases h
      | succ n ih20 =>
        intro z20 ρ20 hz20 hK20 H5 locs5 hP5 hD5 hS5 ls4 hl4
        obtain ⟨t20, hm, hz20⟩ := bn hz20
        unfold m_X6_fits_L20 at hm
        refine lv_iload hx hb dX6_fits_20 (lv_at hl4 4 rfl) ?_
        refine lv_aload_n hx hb dX6_fits_22 rfl (lv_at hl4 0 rfl) ?_
        obtain ⟨y23, hy23, hm⟩ := bn hm
        refine cVRi (As := []) (rest := [.int z20.2.2.1]) X hP5 hl4.1 (c_X6_pictures l D q a z20.2.2.2 y23 hy23) [0, 1, 2, 3, 4, 5, 6, 7, 8, 9, 10, 11, 12, 13, 14, 15, 16, 17] rfl 0 rfl rfl rfl k_1199 mX6_pictures ⟨rfl, rfl⟩ ⟨Nat.le_of_ble_eq_true rfl, Nat.le_of_ble_eq_true rfl⟩ rfl rfl (Nat.le_of_ble_eq_true rfl) dX6_fits_23 ⟨Nat.zero_le _, Nat.zero_le _⟩ ?_
        refine lv_icmp_ge (tgt := 72) hx hb dX6_fits_26 (by decide) (fun c26 => ?_) (fun c26 => ?_)
        · replace hm := tp hm c26
          cases hm
          cases hz20
          exact hE20 (z20.1, z20.2.1, z20.2.2.1, z20.2.2.2) hK20 _ _ hP5 hD5 hS5 _ (lv_sub hl4 [1, 2, 3] rfl)
        · replace hm := tn hm c26
          refine lv_aload_n hx hb dX6_fits_29 rfl (lv_at hl4 0 rfl) ?_
          refine lv_iload hx hb dX6_fits_30 (lv_at hl4 4 rfl) ?_
          obtain ⟨y32, hy32, hm⟩ := bn hm
          refine cVWi (As := [.int z20.2.2.1]) (rest := []) (Wn := fun (uu : SV) => wX6 q a uu) X hP5 hD5 hS5 (fun _ h => Or.inr h) hl4.1 (c_X6_isPossible l D q H5.size a z20.2.2.2 z20.2.2.1 y32 hy32) [0, 1, 2, 3, 4, 5, 6, 7, 8, 9, 10, 11, 12, 13, 14, 15, 16, 17] [] [0, 1, 2, 3, 4, 5, 6, 7, 8, 9, 10, 11, 12, 13, 14, 15, 16, 17] rfl (Wr := []) rfl (by decide) (by decide) (by decide) (by decide) (fun _ => rfl) 0 rfl rfl rfl k_1283 mX6_isPossible ⟨rfl, rfl⟩ ⟨Nat.le_of_ble_eq_true rfl, Nat.le_of_ble_eq_true rfl⟩ rfl rfl (Nat.le_of_ble_eq_true rfl) dX6_fits_32 ⟨Nat.zero_le _, Nat.zero_le _⟩ (fun H8 locs8 hP hD hS8 => ?_)
          have hP8 : va_P D cls (wX6 q a y32.2) H8 := hP
          have hD8 : va_D (va_A (wX6 q a v) s.heap.size) (wX6 q a y32.2) := hD
          clear hP hD hP5 hD5 hS5
          refine lv_istore (lv' := [(5, .int y32.1), (0, .ref (a 99)), (1, .int x1), (2, .int z20.1), (3, .int z20.2.1), (4, .int z20.2.2.1)]) hx hb dX6_fits_35 hl4 (by decide) rfl (fun ls9 hl9 => ?_)
          clear hl4
          refine lv_iload hx hb dX6_fits_37 (lv_at hl9 0 rfl) ?_
          refine lv_if_eq (tgt := 51) hx hb dX6_fits_39 (by decide) (fun c39 => ?_) (fun c39 => ?_)
          · replace hm := tp hm c39
            refine lv_iload_n hx hb dX6_fits_51 rfl (lv_at hl9 4 rfl) ?_
            refine lv_istore_n (lv' := [(3, .int z20.2.1), (5, .int y32.1), (0, .ref (a 99)), (1, .int x1), (2, .int z20.1), (4, .int z20.2.2.1)]) hx hb dX6_fits_52 rfl hl9 (by decide) rfl (fun ls10 hl10 => ?_)
            clear hl9
            refine lv_iload_n hx hb dX6_fits_53 rfl (lv_at hl10 4 rfl) ?_
            refine lv_iload hx hb dX6_fits_54 (lv_at hl10 1 rfl) ?_
            refine lv_if_eq (tgt := 63) hx hb dX6_fits_56 (by decide) (fun c56 => ?_) (fun c56 => ?_)
            · replace hm := tp hm c56
              refine lv_iconst (v := (0 : Int32)) hx hb dX6_fits_63 (by decide) ?_
              refine lv_iadd hx hb dX6_fits_64 ?_
              refine lv_istore_n (lv' := [(2, .int (z20.1 + (0 : Int32))), (3, .int z20.2.1), (5, .int y32.1), (0, .ref (a 99)), (1, .int x1), (4, .int z20.2.2.1)]) hx hb dX6_fits_65 rfl hl10 (by decide) rfl (fun ls11 hl11 => ?_)
              clear hl10
              refine lv_iinc (v := (z20.2.2.1 + (1 : Int32))) (lv' := [(4, .int (z20.2.2.1 + (1 : Int32))), (2, .int (z20.1 + (0 : Int32))), (3, .int z20.2.1), (5, .int y32.1), (0, .ref (a 99)), (1, .int x1)]) hx hb dX6_fits_66 hl11 (k := 5) rfl rfl (by decide) rfl (fun ls12 hl12 => ?_)
              clear hl11
              refine lv_goto (tgt := 20) hx hb dX6_fits_69 (by decide) ?_
              cases hm
              exact ih20 ((z20.1 + (0 : Int32)), z20.2.1, (z20.2.2.1 + (1 : Int32)), y32.2) ρ20 hz20 hK20 _ _ hP8 hD8 hS8 _ (lv_sub hl12 [4, 5, 1, 2, 0] rfl)
            · replace hm := tn hm c56
              refine lv_iconst (v := (1 : Int32)) hx hb dX6_fits_59 (by decide) ?_
              refine lv_goto (tgt := 64) hx hb dX6_fits_60 (by decide) ?_
              refine lv_iadd hx hb dX6_fits_64 ?_
              refine lv_istore_n (lv' := [(2, .int (z20.1 + (1 : Int32))), (3, .int z20.2.1), (5, .int y32.1), (0, .ref (a 99)), (1, .int x1), (4, .int z20.2.2.1)]) hx hb dX6_fits_65 rfl hl10 (by decide) rfl (fun ls13 hl13 => ?_)
              clear hl10
              refine lv_iinc (v := (z20.2.2.1 + (1 : Int32))) (lv' := [(4, .int (z20.2.2.1 + (1 : Int32))), (2, .int (z20.1 + (1 : Int32))), (3, .int z20.2.1), (5, .int y32.1), (0, .ref (a 99)), (1, .int x1)]) hx hb dX6_fits_66 hl13 (k := 5) rfl rfl (by decide) rfl (fun ls14 hl14 => ?_)
              clear hl13
              refine lv_goto (tgt := 20) hx hb dX6_fits_69 (by decide) ?_
              cases hm
              exact ih20 ((z20.1 + (1 : Int32)), z20.2.1, (z20.2.2.1 + (1 : Int32)), y32.2) ρ20 hz20 hK20 _ _ hP8 hD8 hS8 _ (lv_sub hl14 [4, 5, 1, 2, 0] rfl)
          · replace hm := tn hm c39
            refine lv_iload_n hx hb dX6_fits_42 rfl (lv_at hl9 3 rfl) ?_
            refine lv_if_ne (tgt := 51) hx hb dX6_fits_43 (by decide) (fun c43 => ?_) (fun c43 => ?_)
            · replace hm := tn hm c43
              refine lv_iload_n hx hb dX6_fits_51 rfl (lv_at hl9 4 rfl) ?_
              refine lv_istore_n (lv' := [(3, .int z20.2.1), (5, .int y32.1), (0, .ref (a 99)), (1, .int x1), (2, .int z20.1), (4, .int z20.2.2.1)]) hx hb dX6_fits_52 rfl hl9 (by decide) rfl (fun ls20 hl20 => ?_)
              clear hl9
              refine lv_iload_n hx hb dX6_fits_53 rfl (lv_at hl20 4 rfl) ?_
              refine lv_iload hx hb dX6_fits_54 (lv_at hl20 1 rfl) ?_
              refine lv_if_eq (tgt := 63) hx hb dX6_fits_56 (by decide) (fun c56 => ?_) (fun c56 => ?_)
              · replace hm := tp hm c56
                refine lv_iconst (v := (0 : Int32)) hx hb dX6_fits_63 (by decide) ?_
                refine lv_iadd hx hb dX6_fits_64 ?_
                refine lv_istore_n (lv' := [(2, .int (z20.1 + (0 : Int32))), (3, .int z20.2.1), (5, .int y32.1), (0, .ref (a 99)), (1, .int x1), (4, .int z20.2.2.1)]) hx hb dX6_fits_65 rfl hl20 (by decide) rfl (fun ls21 hl21 => ?_)
                clear hl20
                refine lv_iinc (v := (z20.2.2.1 + (1 : Int32))) (lv' := [(4, .int (z20.2.2.1 + (1 : Int32))), (2, .int (z20.1 + (0 : Int32))), (3, .int z20.2.1), (5, .int y32.1), (0, .ref (a 99)), (1, .int x1)]) hx hb dX6_fits_66 hl21 (k := 5) rfl rfl (by decide) rfl (fun ls22 hl22 => ?_)
                clear hl21
                refine lv_goto (tgt := 20) hx hb dX6_fits_69 (by decide) ?_
                cases hm
                exact ih20 ((z20.1 + (0 : Int32)), z20.2.1, (z20.2.2.1 + (1 : Int32)), y32.2) ρ20 hz20 hK20 _ _ hP8 hD8 hS8 _ (lv_sub hl22 [4, 5, 1, 2, 0] rfl)
              · replace hm := tn hm c56
                refine lv_iconst (v := (1 : Int32)) hx hb dX6_fits_59 (by decide) ?_
                refine lv_goto (tgt := 64) hx hb dX6_fits_60 (by decide) ?_
                refine lv_iadd hx hb dX6_fits_64 ?_
                refine lv_istore_n (lv' := [(2, .int (z20.1 + (1 : Int32))), (3, .int z20.2.1), (5, .int y32.1), (0, .ref (a 99)), (1, .int x1), (4, .int z20.2.2.1)]) hx hb dX6_fits_65 rfl hl20 (by decide) rfl (fun ls23 hl23 => ?_)
                clear hl20
                refine lv_iinc (v := (z20.2.2.1 + (1 : Int32))) (lv' := [(4, .int (z20.2.2.1 + (1 : Int32))), (2, .int (z20.1 + (1 : Int32))), (3, .int z20.2.1), (5, .int y32.1), (0, .ref (a 99)), (1, .int x1)]) hx hb dX6_fits_66 hl23 (k := 5) rfl rfl (by decide) rfl (fun ls24 hl24 => ?_)
                clear hl23
                refine lv_goto (tgt := 20) hx hb dX6_fits_69 (by decide) ?_
                cases hm
                exact ih20 ((z20.1 + (1 : Int32)), z20.2.1, (z20.2.2.1 + (1 : Int32)), y32.2) ρ20 hz20 hK20 _ _ hP8 hD8 hS8 _ (lv_sub hl24 [4, 5, 1, 2, 0] rfl)
            · replace hm := tp hm c43
              refine lv_iload hx hb dX6_fits_46 (lv_at hl9 5 rfl) ?_
              refine lv_goto (tgt := 52) hx hb dX6_fits_48 (by decide) ?_
              refine lv_istore_n (lv' := [(3, .int z20.2.2.1), (5, .int y32.1), (0, .ref (a 99)), (1, .int x1), (2, .int z20.1), (4, .int z20.2.2.1)]) hx hb dX6_fits_52 rfl hl9 (by decide) rfl (fun ls15 hl15 => ?_)
              clear hl9
              refine lv_iload_n hx hb dX6_fits_53 rfl (lv_at hl15 4 rfl) ?_
              refine lv_iload hx hb dX6_fits_54 (lv_at hl15 1 rfl) ?_
              refine lv_if_eq (tgt := 63) hx hb dX6_fits_56 (by decide) (fun c56 => ?_) (fun c56 => ?_)
              · replace hm := tp hm c56
                refine lv_iconst (v := (0 : Int32)) hx hb dX6_fits_63 (by decide) ?_
                refine lv_iadd hx hb dX6_fits_64 ?_
                refine lv_istore_n (lv' := [(2, .int (z20.1 + (0 : Int32))), (3, .int z20.2.2.1), (5, .int y32.1), (0, .ref (a 99)), (1, .int x1), (4, .int z20.2.2.1)]) hx hb dX6_fits_65 rfl hl15 (by decide) rfl (fun ls16 hl16 => ?_)
                clear hl15
                refine lv_iinc (v := (z20.2.2.1 + (1 : Int32))) (lv' := [(4, .int (z20.2.2.1 + (1 : Int32))), (2, .int (z20.1 + (0 : Int32))), (3, .int z20.2.2.1), (5, .int y32.1), (0, .ref (a 99)), (1, .int x1)]) hx hb dX6_fits_66 hl16 (k := 5) rfl rfl (by decide) rfl (fun ls17 hl17 => ?_)
                clear hl16
                refine lv_goto (tgt := 20) hx hb dX6_fits_69 (by decide) ?_
                cases hm
                exact ih20 ((z20.1 + (0 : Int32)), z20.2.2.1, (z20.2.2.1 + (1 : Int32)), y32.2) ρ20 hz20 hK20 _ _ hP8 hD8 hS8 _ (lv_sub hl17 [4, 5, 1, 2, 0] rfl)
              · replace hm := tn hm c56
                refine lv_iconst (v := (1 : Int32)) hx hb dX6_fits_59 (by decide) ?_
                refine lv_goto (tgt := 64) hx hb dX6_fits_60 (by decide) ?_
                refine lv_iadd hx hb dX6_fits_64 ?_
                refine lv_istore_n (lv' := [(2, .int (z20.1 + (1 : Int32))), (3, .int z20.2.2.1), (5, .int y32.1), (0, .ref (a 99)), (1, .int x1), (4, .int z20.2.2.1)]) hx hb dX6_fits_65 rfl hl15 (by decide) rfl (fun ls18 hl18 => ?_)
                clear hl15
                refine lv_iinc (v := (z20.2.2.1 + (1 : Int32))) (lv' := [(4, .int (z20.2.2.1 + (1 : Int32))), (2, .int (z20.1 + (1 : Int32))), (3, .int z20.2.2.1), (5, .int y32.1), (0, .ref (a 99)), (1, .int x1)]) hx hb dX6_fits_66 hl18 (k := 5) rfl rfl (by decide) rfl (fun ls19 hl19 => ?_)
                clear hl18
                refine lv_goto (tgt := 20) hx hb dX6_fits_69 (by decide) ?_
                cases hm
                exact ih20 ((z20.1 + (1 : Int32)), z20.2.2.1, (z20.2.2.1 + (1 : Int32)), y32.2) ρ20 hz20 hK20 _ _ hP8 hD8 hS8 _ (lv_sub hl19 [4, 5, 1, 2, 0] rfl)
    exact hL20 n20 ((0 : Int32), (-4 : Int32), (0 : Int32), v) r20 hn20 hm _ _ hP0 hD0 hS0 _ (lv_sub hl3 [3, 4, 2, 1, 0] rfl)
  · replace hm := tp hm c7
    refine lv_iconst (v := (-1 : Int32)) hx hb dX6_fits_10 (by decide) ?_
    exact eWi (Wf := fun (uu : SV) => wX6 q a uu) (u := v) X hr hlocks hP0 hD0 hS0 hm dX6_fits_11
noncomputable def m_X6_ask_K149 (x1 : Int32) (z37 : Int32 × Int32 × SV) (z149 : Int32 × Int32 × Int32) : Option (Int32 × SV) :=
  (if z149.2.1 = (-4 : Int32) then some (z149.2.1, z37.2.2) else (if x1 = 0 then some (z149.2.1, z37.2.2) else some (z149.1, z37.2.2)))
noncomputable def m_X6_ask_K164 (z149 : Int32 × Int32 × Int32) (z164 : Int32 × Int32 × Int32) : Option ((Int32 × Int32 × Int32) ⊕ (Int32 × Int32 × Int32)) :=
  some (.inl (z164.1, z164.2.1, (z149.2.2 + (1 : Int32))))
noncomputable def m_X6_ask_J206 (z149 : Int32 × Int32 × Int32) (z164 : Int32 × Int32 × Int32) (z206 : Int32) : Option ((Int32 × Int32 × Int32) ⊕ (Int32 × Int32 × Int32)) :=
  (if z164.1 ≤ z206 then (if z164.1 ≤ z206 then some (.inl (z164.1, z164.2.1, (z164.2.2 + (1 : Int32)))) else some (.inl (z206, z164.2.1, (z164.2.2 + (1 : Int32))))) else (if z164.1 ≤ z206 then some (.inl (z164.1, (((10 : Int32) * z149.2.2) + z164.2.2), (z164.2.2 + (1 : Int32)))) else some (.inl (z206, (((10 : Int32) * z149.2.2) + z164.2.2), (z164.2.2 + (1 : Int32))))))
noncomputable def m_X6_ask_L164 (z37 : Int32 × Int32 × SV) (z149 : Int32 × Int32 × Int32) (z164 : Int32 × Int32 × Int32) : Option ((Int32 × Int32 × Int32) ⊕ (Int32 × Int32 × Int32)) :=
  (if (z37.2.2 0 1) ≤ z164.2.2 then some (.inr (z164.1, z164.2.1, z164.2.2)) else ck (inB (((6 : Int32) * z149.2.2) + z164.2.2) 36) ((if (z37.2.2 33 (((((6 : Int32) * z149.2.2) + z164.2.2)).toNatClampNeg)) ≤ (z37.1 - (z37.2.2 33 (((((6 : Int32) * z149.2.2) + z164.2.2)).toNatClampNeg))) then m_X6_ask_J206 z149 z164 (z37.1 - (z37.2.2 33 (((((6 : Int32) * z149.2.2) + z164.2.2)).toNatClampNeg))) else m_X6_ask_J206 z149 z164 (z37.2.2 33 (((((6 : Int32) * z149.2.2) + z164.2.2)).toNatClampNeg)))))
noncomputable def m_X6_ask_L149 (z37 : Int32 × Int32 × SV) (z149 : Int32 × Int32 × Int32) : Option ((Int32 × Int32 × Int32) ⊕ (Int32 × Int32 × Int32)) :=
  (if (z37.2.2 0 1) ≤ z149.2.2 then some (.inr (z149.1, z149.2.1, z149.2.2)) else (lpC (m_X6_ask_L164 z37 z149) (z149.1, z149.2.1, (z149.2.2 + (1 : Int32)))).bind (m_X6_ask_K164 z149))
noncomputable def m_X6_ask_K37 (x1 : Int32) (z37 : Int32 × Int32 × SV) : Option (Int32 × SV) :=
  (lpC (m_X6_ask_L149 z37) (z37.1, (-4 : Int32), (0 : Int32))).bind (m_X6_ask_K149 x1 z37)
noncomputable def m_X6_ask_K59 (z37 : Int32 × Int32 × SV) (z59 : Int32 × SV) : Option ((Int32 × Int32 × SV) ⊕ (Int32 × Int32 × SV)) :=
  some (.inl ((z37.1 + (1 : Int32)), (z37.2.1 + (1 : Int32)), z59.2))
noncomputable def m_X6_ask_L59 (z59 : Int32 × SV) : Option ((Int32 × SV) ⊕ (Int32 × SV)) :=
  (if (36 : Int32) ≤ z59.1 then some (.inr (z59.1, z59.2)) else ck (inB z59.1 36) ((if (z59.2 0 1) ≤ (z59.1 / (6 : Int32)) then ck (inB z59.1 36) (lett (up2 z59.2 33 ((z59.1).toNatClampNeg) ((z59.2 33 ((z59.1).toNatClampNeg)) + (0 : Int32))) (fun v51_ => some (.inl ((z59.1 + (1 : Int32)), v51_)))) else (if (z59.2 0 1) ≤ (z59.1 - z59.1 / (6 : Int32) * (6 : Int32)) then ck (inB z59.1 36) (lett (up2 z59.2 33 ((z59.1).toNatClampNeg) ((z59.2 33 ((z59.1).toNatClampNeg)) + (0 : Int32))) (fun v54_ => some (.inl ((z59.1 + (1 : Int32)), v54_)))) else ck (inB (z59.1 / (6 : Int32)) 6) (ck (inB (z59.1 - z59.1 / (6 : Int32) * (6 : Int32)) 6) ((if (z59.2 30 (((z59.1 / (6 : Int32))).toNatClampNeg)) = (z59.2 30 (((z59.1 - z59.1 / (6 : Int32) * (6 : Int32))).toNatClampNeg)) then ck (inB z59.1 36) (lett (up2 z59.2 33 ((z59.1).toNatClampNeg) ((z59.2 33 ((z59.1).toNatClampNeg)) + (1 : Int32))) (fun v59_ => some (.inl ((z59.1 + (1 : Int32)), v59_)))) else ck (inB z59.1 36) (lett (up2 z59.2 33 ((z59.1).toNatClampNeg) ((z59.2 33 ((z59.1).toNatClampNeg)) + (0 : Int32))) (fun v62_ => some (.inl ((z59.1 + (1 : Int32)), v62_)))))))))))
noncomputable def m_X6_ask_L37 (z37 : Int32 × Int32 × SV) : Option ((Int32 × Int32 × SV) ⊕ (Int32 × Int32 × SV)) :=
  (m_X6_pictures z37.2.2).bind (fun y39 => (if y39 ≤ z37.2.1 then some (.inr (z37.1, z37.2.1, z37.2.2)) else (m_X6_isPossible z37.2.2 z37.2.1).bind (fun y47 => (if y47.1 = 0 then some (.inl (z37.1, (z37.2.1 + (1 : Int32)), y47.2)) else (lpC (m_X6_ask_L59) ((0 : Int32), y47.2)).bind (m_X6_ask_K59 z37)))))
noncomputable def m_X6_ask_K16 (x1 : Int32) (z16 : Int32 × SV) : Option (Int32 × SV) :=
  (lpC (m_X6_ask_L37) ((0 : Int32), (0 : Int32), z16.2)).bind (m_X6_ask_K37 x1)
noncomputable def m_X6_ask_L16 (z16 : Int32 × SV) : Option ((Int32 × SV) ⊕ (Int32 × SV)) :=
  (if (36 : Int32) ≤ z16.1 then some (.inr (z16.1, z16.2)) else ck (inB z16.1 36) (lett (up2 z16.2 33 ((z16.1).toNatClampNeg) (0 : Int32)) (fun v65_ => some (.inl ((z16.1 + (1 : Int32)), v65_)))))
noncomputable def m_X6_ask (v : SV) (x1 : Int32) : Option (Int32 × SV) :=
  (m_X6_in (x1.toInt64) (0 : Int64) (1 : Int64)).bind (fun y4 => (if y4 = 0 then some ((-1 : Int32), v) else (lpC (m_X6_ask_L16) ((0 : Int32), v)).bind (m_X6_ask_K16 x1)))
set_option maxHeartbeats 4000000 in
set_option maxRecDepth 100000 in
theorem c_X6_ask (l : Launch) (D : va_G) (q : Nat → ClassId) (sz : Nat) (a : Nat → Nat) (v : SV) (x1 : Int32) (res : Int32 × SV) (hm : m_X6_ask v x1 = some res) : Met l yX6_ask (mw yX6_ask cX6_ask 9 (some .int)) ({ frames := 5, cells := 0, slots := 0, locals := 119 } : Room) (pcW D q (wX6 q a v) sz [.ref (a 99), .int x1]) (va_Qi (fun r w => r = res.1 ∧ w = res.2) (bW D q (wX6 q a v) sz (fun (uu : SV) => wX6 q a uu)) (va_A (wX6 q a v) sz)) 0 0 (va_A (wX6 q a v) sz) := by
  refine Met.ofW (cc := cX6_ask) (maxL := 9) (ret := (some .int)) (by decide) rfl ?_
  intro p e s m args below meth c s₁ B hml hv
  obtain ⟨rfl, hsz, hP0, hK, hD0⟩ := hv
  have hx := B.exec
  have hb := B.bytes
  have hr := B.returns
  have hW := mw_ws (atoms_spec (ws := mw yX6_ask cX6_ask 9 (some .int)) B.pre)
  have hown : s.vm.findClass RX6 = some m.cls := findClass_of_methodNamed B.named
  have hlocks := B.notSynchronized
  have X : Cx p s m [.ref (a 99), .int x1].toArray c cX6_ask 9 RX6 D q := ⟨hx, hb, hml, hown, hW, hK⟩
  subst hsz
  replace hD0 := hD0.self (sz := s.heap.size)
  have hS0 : va_S (va_A (wX6 q a v) s.heap.size) s.heap s.heap [] := va_S.rf
  have hl0 := lv_entry ([.ref (a 99), .int x1]) (n := 9) (Nat.le_of_ble_eq_true rfl)
  rw [lg_entry_eq]
  generalize (lg_sl ([.ref (a 99), .int x1]) ++ List.replicate (9 - (lg_sl ([.ref (a 99), .int x1])).length) Slot.unset).toArray = ls0 at hl0 ⊢
  have hl0 : lv_has ls0 9 [(0, .ref (a 99)), (1, .int x1)] := hl0
  unfold m_X6_ask at hm
  refine lv_iload_n hx hb dX6_ask_0 rfl (lv_at hl0 1 rfl) ?_
  refine lv_i2l hx hb dX6_ask_1 rfl ?_
  refine lv_lconst (v := (0 : Int64)) hx hb dX6_ask_2 (by decide) ?_
  refine lv_lconst (v := (1 : Int64)) hx hb dX6_ask_3 (by decide) ?_
  obtain ⟨y4, hy4, hm⟩ := bn hm
  refine cSRi (As := [.long (x1.toInt64), .long (0 : Int64), .long (1 : Int64)]) (rest := []) X hP0 hl0.1 (c_X6_in l D q (x1.toInt64) (0 : Int64) (1 : Int64) y4 hy4) [] rfl k_993 mX6_in ⟨rfl, rfl⟩ ⟨Nat.le_of_ble_eq_true rfl, Nat.le_of_ble_eq_true rfl⟩ rfl rfl (Nat.le_of_ble_eq_true rfl) dX6_ask_4 ⟨Nat.zero_le _, Nat.zero_le _⟩ ?_
  refine lv_if_ne (tgt := 12) hx hb dX6_ask_7 (by decide) (fun c7 => ?_) (fun c7 => ?_)
  · replace hm := tn hm c7
    refine lv_iconst (v := (0 : Int32)) hx hb dX6_ask_12 (by decide) ?_
    refine lv_istore_n (lv' := [(2, .int (0 : Int32)), (0, .ref (a 99)), (1, .int x1)]) hx hb dX6_ask_13 rfl hl0 (by decide) rfl (fun ls1 hl1 => ?_)
    clear hl0
    refine lv_iconst (v := (0 : Int32)) hx hb dX6_ask_14 (by decide) ?_
    refine lv_istore_n (lv' := [(3, .int (0 : Int32)), (2, .int (0 : Int32)), (0, .ref (a 99)), (1, .int x1)]) hx hb dX6_ask_15 rfl hl1 (by decide) rfl (fun ls2 hl2 => ?_)
    clear hl1
    obtain ⟨r16, hr16, hm⟩ := bn hm
    obtain ⟨n16, hn16⟩ := lpC_ex hr16
    have hE16 : ∀ z16 : Int32 × SV, m_X6_ask_K16 x1 z16 = some res → ∀ (H : Heap) (locs : List Loc), va_P D cls (wX6 q a z16.2) H → va_D (va_A (wX6 q a v) s.heap.size) (wX6 q a z16.2) → va_S (va_A (wX6 q a v) s.heap.size) s.heap H locs → ∀ ls : Array Slot, lv_has ls 9 [(2, .int (0 : Int32)), (0, .ref (a 99)), (1, .int x1)] → W p l e ((headSpec (mw yX6_ask cX6_ask 9 (some .int)) ({ frames := 5, cells := 0, slots := 0, locals := 119 } : Room)).room) s m [.ref (a 99), .int x1].toArray below meth c H locs 0 0 (MQ below (va_Qi (fun r w => r = res.1 ∧ w = res.2) (bW D q (wX6 q a v) s.heap.size (fun (uu : SV) => wX6 q a uu)) (va_A (wX6 q a v) s.heap.size)) [.ref (a 99), .int x1].toArray s 0 0 (va_A (wX6 q a v) s.heap.size)) (F0 m 35 ls []) := by
      intro z16 hm H6 locs6 hP6 hD6 hS6 ls5 hl5
      unfold m_X6_ask_K16 at hm
      refine lv_iconst (v := (0 : Int32)) hx hb dX6_ask_35 (by decide) ?_
      refine lv_istore_n (lv' := [(3, .int (0 : Int32)), (2, .int (0 : Int32)), (0, .ref (a 99)), (1, .int x1)]) hx hb dX6_ask_36 rfl hl5 (by decide) rfl (fun ls7 hl7 => ?_)
      clear hl5
      obtain ⟨r37, hr37, hm⟩ := bn hm
      obtain ⟨n37, hn37⟩ := lpC_ex hr37
      have hE37 : ∀ z37 : Int32 × Int32 × SV, m_X6_ask_K37 x1 z37 = some res → ∀ (H : Heap) (locs : List Loc), va_P D cls (wX6 q a z37.2.2) H → va_D (va_A (wX6 q a v) s.heap.size) (wX6 q a z37.2.2) → va_S (va_A (wX6 q a v) s.heap.size) s.heap H locs → ∀ ls : Array Slot, lv_has ls 9 [(0, .ref (a 99)), (1, .int x1), (2, .int z37.1)] → W p l e ((headSpec (mw yX6_ask cX6_ask 9 (some .int)) ({ frames := 5, cells := 0, slots := 0, locals := 119 } : Room)).room) s m [.ref (a 99), .int x1].toArray below meth c H locs 0 0 (MQ below (va_Qi (fun r w => r = res.1 ∧ w = res.2) (bW D q (wX6 q a v) s.heap.size (fun (uu : SV) => wX6 q a uu)) (va_A (wX6 q a v) s.heap.size)) [.ref (a 99), .int x1].toArray s 0 0 (va_A (wX6 q a v) s.heap.size)) (F0 m 140 ls []) := by
        intro z37 hm H11 locs11 hP11 hD11 hS11 ls10 hl10
        unfold m_X6_ask_K37 at hm
        refine lv_iload_n hx hb dX6_ask_140 rfl (lv_at hl10 2 rfl) ?_
        refine lv_istore_n (lv' := [(3, .int z37.1), (0, .ref (a 99)), (1, .int x1), (2, .int z37.1)]) hx hb dX6_ask_141 rfl hl10 (by decide) rfl (fun ls12 hl12 => ?_)
        clear hl10
        refine lv_bipush (v := (-4 : Int32)) hx hb dX6_ask_142 (by decide) ?_
        refine lv_istore (lv' := [(4, .int (-4 : Int32)), (3, .int z37.1), (0, .ref (a 99)), (1, .int x1), (2, .int z37.1)]) hx hb dX6_ask_144 hl12 (by decide) rfl (fun ls13 hl13 => ?_)
        clear hl12
        refine lv_iconst (v := (0 : Int32)) hx hb dX6_ask_146 (by decide) ?_
        refine lv_istore (lv' := [(5, .int (0 : Int32)), (4, .int (-4 : Int32)), (3, .int z37.1), (0, .ref (a 99)), (1, .int x1), (2, .int z37.1)]) hx hb dX6_ask_147 hl13 (by decide) rfl (fun ls14 hl14 => ?_)
        clear hl13
        obtain ⟨r149, hr149, hm⟩ := bn hm
        obtain ⟨n149, hn149⟩ := lpC_ex hr149
        have hE149 : ∀ z149 : Int32 × Int32 × Int32, m_X6_ask_K149 x1 z37 z149 = some res → ∀ (H : Heap) (locs : List Loc), va_P D cls (wX6 q a z37.2.2) H → va_D (va_A (wX6 q a v) s.heap.size) (wX6 q a z37.2.2) → va_S (va_A (wX6 q a v) s.heap.size) s.heap H locs → ∀ ls : Array Slot, lv_has ls 9 [(1, .int x1), (3, .int z149.1), (4, .int z149.2.1)] → W p l e ((headSpec (mw yX6_ask cX6_ask 9 (some .int)) ({ frames := 5, cells := 0, slots := 0, locals := 119 } : Room)).room) s m [.ref (a 99), .int x1].toArray below meth c H locs 0 0 (MQ below (va_Qi (fun r w => r = res.1 ∧ w = res.2) (bW D q (wX6 q a v) s.heap.size (fun (uu : SV) => wX6 q a uu)) (va_A (wX6 q a v) s.heap.size)) [.ref (a 99), .int x1].toArray s 0 0 (va_A (wX6 q a v) s.heap.size)) (F0 m 254 ls []) := by
          intro z149 hm H18 locs18 hP18 hD18 hS18 ls17 hl17
          unfold m_X6_ask_K149 at hm
          refine lv_iload hx hb dX6_ask_254 (lv_at hl17 2 rfl) ?_
          refine lv_bipush (v := (-4 : Int32)) hx hb dX6_ask_256 (by decide) ?_
          refine lv_icmp_eq (tgt := 265) hx hb dX6_ask_258 (by decide) (fun c258 => ?_) (fun c258 => ?_)
          · replace hm := tp hm c258
            refine lv_iload hx hb dX6_ask_265 (lv_at hl17 2 rfl) ?_
            refine lv_goto (tgt := 271) hx hb dX6_ask_267 (by decide) ?_
            exact eWi (Wf := fun (uu : SV) => wX6 q a uu) (u := z37.2.2) X hr hlocks hP18 hD18 hS18 hm dX6_ask_271
          · replace hm := tn hm c258
            refine lv_iload_n hx hb dX6_ask_261 rfl (lv_at hl17 0 rfl) ?_
            refine lv_if_ne (tgt := 270) hx hb dX6_ask_262 (by decide) (fun c262 => ?_) (fun c262 => ?_)
            · replace hm := tn hm c262
              refine lv_iload_n hx hb dX6_ask_270 rfl (lv_at hl17 1 rfl) ?_
              exact eWi (Wf := fun (uu : SV) => wX6 q a uu) (u := z37.2.2) X hr hlocks hP18 hD18 hS18 hm dX6_ask_271
            · replace hm := tp hm c262
              refine lv_iload hx hb dX6_ask_265 (lv_at hl17 2 rfl) ?_
              refine lv_goto (tgt := 271) hx hb dX6_ask_267 (by decide) ?_
              exact eWi (Wf := fun (uu : SV) => wX6 q a uu) (u := z37.2.2) X hr hlocks hP18 hD18 hS18 hm dX6_ask_271
        have hL149 : ∀ (n : Nat) (z149 : Int32 × Int32 × Int32) (ρ149 : Int32 × Int32 × Int32), lpO (m_X6_ask_L149 z37) n z149 = some ρ149 → (m_X6_ask_K149 x1 z37) ρ149 = some res → ∀ (H : Heap) (locs : List Loc), va_P D cls (wX6 q a z37.2.2) H → va_D (va_A (wX6 q a v) s.heap.size) (wX6 q a z37.2.2) → va_S (va_A (wX6 q a v) s.heap.size) s.heap H locs → ∀ ls : Array Slot, lv_has ls 9 [(0, .ref (a 99)), (1, .int x1), (2, .int z37.1), (3, .int z149.1), (4, .int z149.2.1), (5, .int z149.2.2)] → W p l e ((headSpec (mw yX6_ask cX6_ask 9 (some .int)) ({ frames := 5, cells := 0, slots := 0, locals := 119 } : Room)).room) s m [.ref (a 99), .int x1].toArray below meth c H locs 0 0 (MQ below (va_Qi (fun r w => r = res.1 ∧ w = res.2) (bW D q (wX6 q a v) s.heap.size (fun (uu : SV) => wX6 q a uu)) (va_A (wX6 q a v) s.heap.size)) [.ref (a 99), .int x1].toArray s 0 0 (va_A (wX6 q a v) s.heap.size)) (F0 m 149 ls []) := by
          intro n
          induction n with
          | zero => intro _ _ h; cases h
          | succ n ih149 =>
            intro z149 ρ149 hz149 hK149 H16 locs16 hP16 hD16 hS16 ls15 hl15
            obtain ⟨t149, hm, hz149⟩ := bn hz149
            unfold m_X6_ask_L149 at hm
            refine lv_iload hx hb dX6_ask_149 (lv_at hl15 5 rfl) ?_
            refine lv_aload_n hx hb dX6_ask_151 rfl (lv_at hl15 0 rfl) ?_
            refine va_get (D := D) (ci := 6) (v := .int (z37.2.2 0 1)) (C := RX6) (T := TX6) (N := 40) hx hb hW iX6 hown hK hP16 0 rfl rfl 1 (by decide) (hW _ k_868) (fun _ h => h) rfl dX6_ask_152 ?_
            refine lv_icmp_ge (tgt := 254) hx hb dX6_ask_155 (by decide) (fun c155 => ?_) (fun c155 => ?_)
            · replace hm := tp hm c155
              cases hm
              cases hz149
              exact hE149 (z149.1, z149.2.1, z149.2.2) hK149 _ _ hP16 hD16 hS16 _ (lv_sub hl15 [1, 3, 4] rfl)
            · replace hm := tn hm c155
              refine lv_iload hx hb dX6_ask_158 (lv_at hl15 5 rfl) ?_
              refine lv_iconst (v := (1 : Int32)) hx hb dX6_ask_160 (by decide) ?_
              refine lv_iadd hx hb dX6_ask_161 ?_
              refine lv_istore (lv' := [(6, .int (z149.2.2 + (1 : Int32))), (0, .ref (a 99)), (1, .int x1), (2, .int z37.1), (3, .int z149.1), (4, .int z149.2.1), (5, .int z149.2.2)]) hx hb dX6_ask_162 hl15 (by decide) rfl (fun ls19 hl19 => ?_)
              clear hl15
              obtain ⟨r164, hr164, hm⟩ := bn hm
              obtain ⟨n164, hn164⟩ := lpC_ex hr164
              have hE164 : ∀ z164 : Int32 × Int32 × Int32, m_X6_ask_K164 z149 z164 = some t149 → ∀ (H : Heap) (locs : List Loc), va_P D cls (wX6 q a z37.2.2) H → va_D (va_A (wX6 q a v) s.heap.size) (wX6 q a z37.2.2) → va_S (va_A (wX6 q a v) s.heap.size) s.heap H locs → ∀ ls : Array Slot, lv_has ls 9 [(0, .ref (a 99)), (1, .int x1), (2, .int z37.1), (5, .int z149.2.2), (3, .int z164.1), (4, .int z164.2.1)] → W p l e ((headSpec (mw yX6_ask cX6_ask 9 (some .int)) ({ frames := 5, cells := 0, slots := 0, locals := 119 } : Room)).room) s m [.ref (a 99), .int x1].toArray below meth c H locs 0 0 (MQ below (va_Qi (fun r w => r = res.1 ∧ w = res.2) (bW D q (wX6 q a v) s.heap.size (fun (uu : SV) => wX6 q a uu)) (va_A (wX6 q a v) s.heap.size)) [.ref (a 99), .int x1].toArray s 0 0 (va_A (wX6 q a v) s.heap.size)) (F0 m 248 ls []) := by
                intro z164 hm H23 locs23 hP23 hD23 hS23 ls22 hl22
                unfold m_X6_ask_K164 at hm
                refine lv_iinc (v := (z149.2.2 + (1 : Int32))) (lv' := [(5, .int (z149.2.2 + (1 : Int32))), (0, .ref (a 99)), (1, .int x1), (2, .int z37.1), (3, .int z164.1), (4, .int z164.2.1)]) hx hb dX6_ask_248 hl22 (k := 3) rfl rfl (by decide) rfl (fun ls24 hl24 => ?_)
                clear hl22
                refine lv_goto (tgt := 149) hx hb dX6_ask_251 (by decide) ?_
                cases hm
                exact ih149 (z164.1, z164.2.1, (z149.2.2 + (1 : Int32))) ρ149 hz149 hK149 _ _ hP23 hD23 hS23 _ (lv_sub hl24 [1, 2, 3, 4, 5, 0] rfl)
              have hL164 : ∀ (n : Nat) (z164 : Int32 × Int32 × Int32) (ρ164 : Int32 × Int32 × Int32), lpO (m_X6_ask_L164 z37 z149) n z164 = some ρ164 → (m_X6_ask_K164 z149) ρ164 = some t149 → ∀ (H : Heap) (locs : List Loc), va_P D cls (wX6 q a z37.2.2) H → va_D (va_A (wX6 q a v) s.heap.size) (wX6 q a z37.2.2) → va_S (va_A (wX6 q a v) s.heap.size) s.heap H locs → ∀ ls : Array Slot, lv_has ls 9 [(0, .ref (a 99)), (1, .int x1), (2, .int z37.1), (5, .int z149.2.2), (3, .int z164.1), (4, .int z164.2.1), (6, .int z164.2.2)] → W p l e ((headSpec (mw yX6_ask cX6_ask 9 (some .int)) ({ frames := 5, cells := 0, slots := 0, locals := 119 } : Room)).room) s m [.ref (a 99), .int x1].toArray below meth c H locs 0 0 (MQ below (va_Qi (fun r w => r = res.1 ∧ w = res.2) (bW D q (wX6 q a v) s.heap.size (fun (uu : SV) => wX6 q a uu)) (va_A (wX6 q a v) s.heap.size)) [.ref (a 99), .int x1].toArray s 0 0 (va_A (wX6 q a v) s.heap.size)) (F0 m 164 ls []) := by
                intro n
                induction n with
                | zero => intro _ _ h; cases h
                | succ n ih164 =>
                  intro z164 ρ164 hz164 hK164 H21 locs21 hP21 hD21 hS21 ls20 hl20
                  obtain ⟨t164, hm, hz164⟩ := bn hz164
                  unfold m_X6_ask_L164 at hm
                  refine lv_iload hx hb dX6_ask_164 (lv_at hl20 6 rfl) ?_
                  refine lv_aload_n hx hb dX6_ask_166 rfl (lv_at hl20 0 rfl) ?_
                  refine va_get (D := D) (ci := 6) (v := .int (z37.2.2 0 1)) (C := RX6) (T := TX6) (N := 40) hx hb hW iX6 hown hK hP21 0 rfl rfl 1 (by decide) (hW _ k_868) (fun _ h => h) rfl dX6_ask_167 ?_
                  refine lv_icmp_ge (tgt := 248) hx hb dX6_ask_170 (by decide) (fun c170 => ?_) (fun c170 => ?_)
                  · replace hm := tp hm c170
                    cases hm
                    cases hz164
                    exact hE164 (z164.1, z164.2.1, z164.2.2) hK164 _ _ hP21 hD21 hS21 _ (lv_sub hl20 [0, 1, 2, 3, 4, 5] rfl)
                  · replace hm := tn hm c170
                    refine lv_aload_n hx hb dX6_ask_173 rfl (lv_at hl20 0 rfl) ?_
                    refine va_get (D := D) (ci := 6) (v := .ref (a 33)) (C := RX6) (T := TX6) (N := 40) hx hb hW iX6 hown hK hP21 0 rfl rfl 33 (by decide) (hW _ k_900) (fun _ h => h) rfl dX6_ask_174 ?_
                    refine lv_bipush (v := (6 : Int32)) hx hb dX6_ask_177 (by decide) ?_
                    refine lv_iload hx hb dX6_ask_179 (lv_at hl20 3 rfl) ?_
                    refine lv_imul hx hb dX6_ask_181 ?_
                    refine lv_iload hx hb dX6_ask_182 (lv_at hl20 6 rfl) ?_
                    refine lv_iadd hx hb dX6_ask_184 ?_
                    obtain ⟨h25, hm⟩ := ckd hm
                    refine va_iald (f := (z37.2.2 33)) hx hb hK hP21 13 0 rfl rfl (inB_vp h25) dX6_ask_185 ?_
                    refine lv_istore (lv' := [(7, .int (z37.2.2 33 (((((6 : Int32) * z149.2.2) + z164.2.2)).toNatClampNeg))), (0, .ref (a 99)), (1, .int x1), (2, .int z37.1), (5, .int z149.2.2), (3, .int z164.1), (4, .int z164.2.1), (6, .int z164.2.2)]) hx hb dX6_ask_186 hl20 (by decide) rfl (fun ls26 hl26 => ?_)
                    clear hl20
                    refine lv_iload hx hb dX6_ask_188 (lv_at hl26 0 rfl) ?_
                    refine lv_iload_n hx hb dX6_ask_190 rfl (lv_at hl26 3 rfl) ?_
                    refine lv_iload hx hb dX6_ask_191 (lv_at hl26 0 rfl) ?_
                    refine lv_isub hx hb dX6_ask_193 ?_
                    have hJ206 : ∀ z206 : Int32, m_X6_ask_J206 z149 z164 z206 = some t164 → ∀ (H : Heap) (locs : List Loc), va_P D cls (wX6 q a z37.2.2) H → va_D (va_A (wX6 q a v) s.heap.size) (wX6 q a z37.2.2) → va_S (va_A (wX6 q a v) s.heap.size) s.heap H locs → ∀ ls : Array Slot, lv_has ls 9 [(0, .ref (a 99)), (1, .int x1), (2, .int z37.1), (5, .int z149.2.2), (3, .int z164.1), (4, .int z164.2.1), (6, .int z164.2.2)] → W p l e ((headSpec (mw yX6_ask cX6_ask 9 (some .int)) ({ frames := 5, cells := 0, slots := 0, locals := 119 } : Room)).room) s m [.ref (a 99), .int x1].toArray below meth c H locs 0 0 (MQ below (va_Qi (fun r w => r = res.1 ∧ w = res.2) (bW D q (wX6 q a v) s.heap.size (fun (uu : SV) => wX6 q a uu)) (va_A (wX6 q a v) s.heap.size)) [.ref (a 99), .int x1].toArray s 0 0 (va_A (wX6 q a v) s.heap.size)) (F0 m 206 ls [.int z206]) := by
                      intro z206 hm H28 locs28 hP28 hD28 hS28 ls27 hl27
                      unfold m_X6_ask_J206 at hm
                      refine lv_istore (lv' := [(8, .int z206), (0, .ref (a 99)), (1, .int x1), (2, .int z37.1), (5, .int z149.2.2), (3, .int z164.1), (4, .int z164.2.1), (6, .int z164.2.2)]) hx hb dX6_ask_206 hl27 (by decide) rfl (fun ls29 hl29 => ?_)
                      clear hl27
                      refine lv_iload hx hb dX6_ask_208 (lv_at hl29 0 rfl) ?_
                      refine lv_iload_n hx hb dX6_ask_210 rfl (lv_at hl29 5 rfl) ?_
                      refine lv_icmp_ge (tgt := 225) hx hb dX6_ask_211 (by decide) (fun c211 => ?_) (fun c211 => ?_)
                      · replace hm := tp hm c211
                        refine lv_iload hx hb dX6_ask_225 (lv_at hl29 6 rfl) ?_
                        refine lv_istore (lv' := [(4, .int z164.2.1), (8, .int z206), (0, .ref (a 99)), (1, .int x1), (2, .int z37.1), (5, .int z149.2.2), (3, .int z164.1), (6, .int z164.2.2)]) hx hb dX6_ask_227 hl29 (by decide) rfl (fun ls30 hl30 => ?_)
                        clear hl29
                        refine lv_iload hx hb dX6_ask_229 (lv_at hl30 1 rfl) ?_
                        refine lv_iload_n hx hb dX6_ask_231 rfl (lv_at hl30 6 rfl) ?_
                        refine lv_icmp_ge (tgt := 240) hx hb dX6_ask_232 (by decide) (fun c232 => ?_) (fun c232 => ?_)
                        · replace hm := tp hm c232
                          refine lv_iload_n hx hb dX6_ask_240 rfl (lv_at hl30 6 rfl) ?_
                          refine lv_istore_n (lv' := [(3, .int z164.1), (4, .int z164.2.1), (8, .int z206), (0, .ref (a 99)), (1, .int x1), (2, .int z37.1), (5, .int z149.2.2), (6, .int z164.2.2)]) hx hb dX6_ask_241 rfl hl30 (by decide) rfl (fun ls31 hl31 => ?_)
                          clear hl30
                          refine lv_iinc (v := (z164.2.2 + (1 : Int32))) (lv' := [(6, .int (z164.2.2 + (1 : Int32))), (3, .int z164.1), (4, .int z164.2.1), (8, .int z206), (0, .ref (a 99)), (1, .int x1), (2, .int z37.1), (5, .int z149.2.2)]) hx hb dX6_ask_242 hl31 (k := 7) rfl rfl (by decide) rfl (fun ls32 hl32 => ?_)
                          clear hl31
                          refine lv_goto (tgt := 164) hx hb dX6_ask_245 (by decide) ?_
                          cases hm
                          exact ih164 (z164.1, z164.2.1, (z164.2.2 + (1 : Int32))) ρ164 hz164 hK164 _ _ hP28 hD28 hS28 _ (lv_sub hl32 [4, 5, 6, 7, 1, 2, 0] rfl)
                        · replace hm := tn hm c232
                          refine lv_iload hx hb dX6_ask_235 (lv_at hl30 1 rfl) ?_
                          refine lv_goto (tgt := 241) hx hb dX6_ask_237 (by decide) ?_
                          refine lv_istore_n (lv' := [(3, .int z206), (4, .int z164.2.1), (8, .int z206), (0, .ref (a 99)), (1, .int x1), (2, .int z37.1), (5, .int z149.2.2), (6, .int z164.2.2)]) hx hb dX6_ask_241 rfl hl30 (by decide) rfl (fun ls33 hl33 => ?_)
                          clear hl30
                          refine lv_iinc (v := (z164.2.2 + (1 : Int32))) (lv' := [(6, .int (z164.2.2 + (1 : Int32))), (3, .int z206), (4, .int z164.2.1), (8, .int z206), (0, .ref (a 99)), (1, .int x1), (2, .int z37.1), (5, .int z149.2.2)]) hx hb dX6_ask_242 hl33 (k := 7) rfl rfl (by decide) rfl (fun ls34 hl34 => ?_)
                          clear hl33
                          refine lv_goto (tgt := 164) hx hb dX6_ask_245 (by decide) ?_
                          cases hm
                          exact ih164 (z206, z164.2.1, (z164.2.2 + (1 : Int32))) ρ164 hz164 hK164 _ _ hP28 hD28 hS28 _ (lv_sub hl34 [4, 5, 6, 7, 1, 2, 0] rfl)
                      · replace hm := tn hm c211
                        refine lv_bipush (v := (10 : Int32)) hx hb dX6_ask_214 (by decide) ?_
                        refine lv_iload hx hb dX6_ask_216 (lv_at hl29 4 rfl) ?_
                        refine lv_imul hx hb dX6_ask_218 ?_
                        refine lv_iload hx hb dX6_ask_219 (lv_at hl29 7 rfl) ?_
                        refine lv_iadd hx hb dX6_ask_221 ?_
                        refine lv_goto (tgt := 227) hx hb dX6_ask_222 (by decide) ?_
                        refine lv_istore (lv' := [(4, .int (((10 : Int32) * z149.2.2) + z164.2.2)), (8, .int z206), (0, .ref (a 99)), (1, .int x1), (2, .int z37.1), (5, .int z149.2.2), (3, .int z164.1), (6, .int z164.2.2)]) hx hb dX6_ask_227 hl29 (by decide) rfl (fun ls35 hl35 => ?_)
                        clear hl29
                        refine lv_iload hx hb dX6_ask_229 (lv_at hl35 1 rfl) ?_
                        refine lv_iload_n hx hb dX6_ask_231 rfl (lv_at hl35 6 rfl) ?_
                        refine lv_icmp_ge (tgt := 240) hx hb dX6_ask_232 (by decide) (fun c232 => ?_) (fun c232 => ?_)
                        · replace hm := tp hm c232
                          refine lv_iload_n hx hb dX6_ask_240 rfl (lv_at hl35 6 rfl) ?_
                          refine lv_istore_n (lv' := [(3, .int z164.1), (4, .int (((10 : Int32) * z149.2.2) + z164.2.2)), (8, .int z206), (0, .ref (a 99)), (1, .int x1), (2, .int z37.1), (5, .int z149.2.2), (6, .int z164.2.2)]) hx hb dX6_ask_241 rfl hl35 (by decide) rfl (fun ls36 hl36 => ?_)
                          clear hl35
                          refine lv_iinc (v := (z164.2.2 + (1 : Int32))) (lv' := [(6, .int (z164.2.2 + (1 : Int32))), (3, .int z164.1), (4, .int (((10 : Int32) * z149.2.2) + z164.2.2)), (8, .int z206), (0, .ref (a 99)), (1, .int x1), (2, .int z37.1), (5, .int z149.2.2)]) hx hb dX6_ask_242 hl36 (k := 7) rfl rfl (by decide) rfl (fun ls37 hl37 => ?_)
                          clear hl36
                          refine lv_goto (tgt := 164) hx hb dX6_ask_245 (by decide) ?_
                          cases hm
                          exact ih164 (z164.1, (((10 : Int32) * z149.2.2) + z164.2.2), (z164.2.2 + (1 : Int32))) ρ164 hz164 hK164 _ _ hP28 hD28 hS28 _ (lv_sub hl37 [4, 5, 6, 7, 1, 2, 0] rfl)
                        · replace hm := tn hm c232
                          refine lv_iload hx hb dX6_ask_235 (lv_at hl35 1 rfl) ?_
                          refine lv_goto (tgt := 241) hx hb dX6_ask_237 (by decide) ?_
                          refine lv_istore_n (lv' := [(3, .int z206), (4, .int (((10 : Int32) * z149.2.2) + z164.2.2)), (8, .int z206), (0, .ref (a 99)), (1, .int x1), (2, .int z37.1), (5, .int z149.2.2), (6, .int z164.2.2)]) hx hb dX6_ask_241 rfl hl35 (by decide) rfl (fun ls38 hl38 => ?_)
                          clear hl35
                          refine lv_iinc (v := (z164.2.2 + (1 : Int32))) (lv' := [(6, .int (z164.2.2 + (1 : Int32))), (3, .int z206), (4, .int (((10 : Int32) * z149.2.2) + z164.2.2)), (8, .int z206), (0, .ref (a 99)), (1, .int x1), (2, .int z37.1), (5, .int z149.2.2)]) hx hb dX6_ask_242 hl38 (k := 7) rfl rfl (by decide) rfl (fun ls39 hl39 => ?_)
                          clear hl38
                          refine lv_goto (tgt := 164) hx hb dX6_ask_245 (by decide) ?_
                          cases hm
                          exact ih164 (z206, (((10 : Int32) * z149.2.2) + z164.2.2), (z164.2.2 + (1 : Int32))) ρ164 hz164 hK164 _ _ hP28 hD28 hS28 _ (lv_sub hl39 [4, 5, 6, 7, 1, 2, 0] rfl)
                    refine lv_icmp_le (tgt := 202) hx hb dX6_ask_194 (by decide) (fun c194 => ?_) (fun c194 => ?_)
                    · replace hm := tp hm c194
                      refine lv_iload_n hx hb dX6_ask_202 rfl (lv_at hl26 3 rfl) ?_
                      refine lv_iload hx hb dX6_ask_203 (lv_at hl26 0 rfl) ?_
                      refine lv_isub hx hb dX6_ask_205 ?_
                      exact hJ206 (z37.1 - (z37.2.2 33 (((((6 : Int32) * z149.2.2) + z164.2.2)).toNatClampNeg))) hm _ _ hP21 hD21 hS21 _ (lv_sub hl26 [1, 2, 3, 4, 5, 6, 7] rfl)
                    · replace hm := tn hm c194
                      refine lv_iload hx hb dX6_ask_197 (lv_at hl26 0 rfl) ?_
                      refine lv_goto (tgt := 206) hx hb dX6_ask_199 (by decide) ?_
                      exact hJ206 (z37.2.2 33 (((((6 : Int32) * z149.2.2) + z164.2.2)).toNatClampNeg)) hm _ _ hP21 hD21 hS21 _ (lv_sub hl26 [1, 2, 3, 4, 5, 6, 7] rfl)
              exact hL164 n164 (z149.1, z149.2.1, (z149.2.2 + (1 : Int32))) r164 hn164 hm _ _ hP16 hD16 hS16 _ (lv_sub hl19 [1, 2, 3, 6, 4, 5, 0] rfl)
        exact hL149 n149 (z37.1, (-4 : Int32), (0 : Int32)) r149 hn149 hm _ _ hP11 hD11 hS11 _ (lv_sub hl14 [3, 4, 5, 2, 1, 0] rfl)
      have hL37 : ∀ (n : Nat) (z37 : Int32 × Int32 × SV) (ρ37 : Int32 × Int32 × SV), lpO (m_X6_ask_L37) n z37 = some ρ37 → (m_X6_ask_K37 x1) ρ37 = some res → ∀ (H : Heap) (locs : List Loc), va_P D cls (wX6 q a z37.2.2) H → va_D (va_A (wX6 q a v) s.heap.size) (wX6 q a z37.2.2) → va_S (va_A (wX6 q a v) s.heap.size) s.heap H locs → ∀ ls : Array Slot, lv_has ls 9 [(0, .ref (a 99)), (1, .int x1), (2, .int z37.1), (3, .int z37.2.1)] → W p l e ((headSpec (mw yX6_ask cX6_ask 9 (some .int)) ({ frames := 5, cells := 0, slots := 0, locals := 119 } : Room)).room) s m [.ref (a 99), .int x1].toArray below meth c H locs 0 0 (MQ below (va_Qi (fun r w => r = res.1 ∧ w = res.2) (bW D q (wX6 q a v) s.heap.size (fun (uu : SV) => wX6 q a uu)) (va_A (wX6 q a v) s.heap.size)) [.ref (a 99), .int x1].toArray s 0 0 (va_A (wX6 q a v) s.heap.size)) (F0 m 37 ls []) := by
        intro n
        induction n with
        | zero => intro _ _ h; cases h
        | succ n ih37 =>
          intro z37 ρ37 hz37 hK37 H9 locs9 hP9 hD9 hS9 ls8 hl8
          obtain ⟨t37, hm, hz37⟩ := bn hz37
          unfold m_X6_ask_L37 at hm
          refine lv_iload_n hx hb dX6_ask_37 rfl (lv_at hl8 3 rfl) ?_
          refine lv_aload_n hx hb dX6_ask_38 rfl (lv_at hl8 0 rfl) ?_
          obtain ⟨y39, hy39, hm⟩ := bn hm
          refine cVRi (As := []) (rest := [.int z37.2.1]) X hP9 hl8.1 (c_X6_pictures l D q a z37.2.2 y39 hy39) [0, 1, 2, 3, 4, 5, 6, 7, 8, 9, 10, 11, 12, 13, 14, 15, 16, 17] rfl 0 rfl rfl rfl k_1199 mX6_pictures ⟨rfl, rfl⟩ ⟨Nat.le_of_ble_eq_true rfl, Nat.le_of_ble_eq_true rfl⟩ rfl rfl (Nat.le_of_ble_eq_true rfl) dX6_ask_39 ⟨Nat.zero_le _, Nat.zero_le _⟩ ?_
          refine lv_icmp_ge (tgt := 140) hx hb dX6_ask_42 (by decide) (fun c42 => ?_) (fun c42 => ?_)
          · replace hm := tp hm c42
            cases hm
            cases hz37
            exact hE37 (z37.1, z37.2.1, z37.2.2) hK37 _ _ hP9 hD9 hS9 _ (lv_sub hl8 [0, 1, 2] rfl)
          · replace hm := tn hm c42
            refine lv_aload_n hx hb dX6_ask_45 rfl (lv_at hl8 0 rfl) ?_
            refine lv_iload_n hx hb dX6_ask_46 rfl (lv_at hl8 3 rfl) ?_
            obtain ⟨y47, hy47, hm⟩ := bn hm
            refine cVWi (As := [.int z37.2.1]) (rest := []) (Wn := fun (uu : SV) => wX6 q a uu) X hP9 hD9 hS9 (fun _ h => Or.inr h) hl8.1 (c_X6_isPossible l D q H9.size a z37.2.2 z37.2.1 y47 hy47) [0, 1, 2, 3, 4, 5, 6, 7, 8, 9, 10, 11, 12, 13, 14, 15, 16, 17] [] [0, 1, 2, 3, 4, 5, 6, 7, 8, 9, 10, 11, 12, 13, 14, 15, 16, 17] rfl (Wr := []) rfl (by decide) (by decide) (by decide) (by decide) (fun _ => rfl) 0 rfl rfl rfl k_1283 mX6_isPossible ⟨rfl, rfl⟩ ⟨Nat.le_of_ble_eq_true rfl, Nat.le_of_ble_eq_true rfl⟩ rfl rfl (Nat.le_of_ble_eq_true rfl) dX6_ask_47 ⟨Nat.zero_le _, Nat.zero_le _⟩ (fun H40 locs40 hP hD hS40 => ?_)
            have hP40 : va_P D cls (wX6 q a y47.2) H40 := hP
            have hD40 : va_D (va_A (wX6 q a v) s.heap.size) (wX6 q a y47.2) := hD
            clear hP hD hP9 hD9 hS9
            refine lv_if_eq (tgt := 134) hx hb dX6_ask_50 (by decide) (fun c50 => ?_) (fun c50 => ?_)
            · replace hm := tp hm c50
              refine lv_iinc (v := (z37.2.1 + (1 : Int32))) (lv' := [(3, .int (z37.2.1 + (1 : Int32))), (0, .ref (a 99)), (1, .int x1), (2, .int z37.1)]) hx hb dX6_ask_134 hl8 (k := 3) rfl rfl (by decide) rfl (fun ls41 hl41 => ?_)
              clear hl8
              refine lv_goto (tgt := 37) hx hb dX6_ask_137 (by decide) ?_
              cases hm
              exact ih37 (z37.1, (z37.2.1 + (1 : Int32)), y47.2) ρ37 hz37 hK37 _ _ hP40 hD40 hS40 _ (lv_sub hl41 [1, 2, 3, 0] rfl)
            · replace hm := tn hm c50
              refine lv_iinc (v := (z37.1 + (1 : Int32))) (lv' := [(2, .int (z37.1 + (1 : Int32))), (0, .ref (a 99)), (1, .int x1), (3, .int z37.2.1)]) hx hb dX6_ask_53 hl8 (k := 2) rfl rfl (by decide) rfl (fun ls42 hl42 => ?_)
              clear hl8
              refine lv_iconst (v := (0 : Int32)) hx hb dX6_ask_56 (by decide) ?_
              refine lv_istore (lv' := [(4, .int (0 : Int32)), (2, .int (z37.1 + (1 : Int32))), (0, .ref (a 99)), (1, .int x1), (3, .int z37.2.1)]) hx hb dX6_ask_57 hl42 (by decide) rfl (fun ls43 hl43 => ?_)
              clear hl42
              obtain ⟨r59, hr59, hm⟩ := bn hm
              obtain ⟨n59, hn59⟩ := lpC_ex hr59
              have hE59 : ∀ z59 : Int32 × SV, m_X6_ask_K59 z37 z59 = some t37 → ∀ (H : Heap) (locs : List Loc), va_P D cls (wX6 q a z59.2) H → va_D (va_A (wX6 q a v) s.heap.size) (wX6 q a z59.2) → va_S (va_A (wX6 q a v) s.heap.size) s.heap H locs → ∀ ls : Array Slot, lv_has ls 9 [(2, .int (z37.1 + (1 : Int32))), (0, .ref (a 99)), (1, .int x1), (3, .int z37.2.1)] → W p l e ((headSpec (mw yX6_ask cX6_ask 9 (some .int)) ({ frames := 5, cells := 0, slots := 0, locals := 119 } : Room)).room) s m [.ref (a 99), .int x1].toArray below meth c H locs 0 0 (MQ below (va_Qi (fun r w => r = res.1 ∧ w = res.2) (bW D q (wX6 q a v) s.heap.size (fun (uu : SV) => wX6 q a uu)) (va_A (wX6 q a v) s.heap.size)) [.ref (a 99), .int x1].toArray s 0 0 (va_A (wX6 q a v) s.heap.size)) (F0 m 134 ls []) := by
                intro z59 hm H47 locs47 hP47 hD47 hS47 ls46 hl46
                unfold m_X6_ask_K59 at hm
                refine lv_iinc (v := (z37.2.1 + (1 : Int32))) (lv' := [(3, .int (z37.2.1 + (1 : Int32))), (2, .int (z37.1 + (1 : Int32))), (0, .ref (a 99)), (1, .int x1)]) hx hb dX6_ask_134 hl46 (k := 3) rfl rfl (by decide) rfl (fun ls48 hl48 => ?_)
                clear hl46
                refine lv_goto (tgt := 37) hx hb dX6_ask_137 (by decide) ?_
                cases hm
                exact ih37 ((z37.1 + (1 : Int32)), (z37.2.1 + (1 : Int32)), z59.2) ρ37 hz37 hK37 _ _ hP47 hD47 hS47 _ (lv_sub hl48 [2, 3, 1, 0] rfl)
              have hL59 : ∀ (n : Nat) (z59 : Int32 × SV) (ρ59 : Int32 × SV), lpO (m_X6_ask_L59) n z59 = some ρ59 → (m_X6_ask_K59 z37) ρ59 = some t37 → ∀ (H : Heap) (locs : List Loc), va_P D cls (wX6 q a z59.2) H → va_D (va_A (wX6 q a v) s.heap.size) (wX6 q a z59.2) → va_S (va_A (wX6 q a v) s.heap.size) s.heap H locs → ∀ ls : Array Slot, lv_has ls 9 [(2, .int (z37.1 + (1 : Int32))), (0, .ref (a 99)), (1, .int x1), (3, .int z37.2.1), (4, .int z59.1)] → W p l e ((headSpec (mw yX6_ask cX6_ask 9 (some .int)) ({ frames := 5, cells := 0, slots := 0, locals := 119 } : Room)).room) s m [.ref (a 99), .int x1].toArray below meth c H locs 0 0 (MQ below (va_Qi (fun r w => r = res.1 ∧ w = res.2) (bW D q (wX6 q a v) s.heap.size (fun (uu : SV) => wX6 q a uu)) (va_A (wX6 q a v) s.heap.size)) [.ref (a 99), .int x1].toArray s 0 0 (va_A (wX6 q a v) s.heap.size)) (F0 m 59 ls []) := by
                intro n
                induction n with
                | zero => intro _ _ h; cases h
                | succ n ih59 =>
                  intro z59 ρ59 hz59 hK59 H45 locs45 hP45 hD45 hS45 ls44 hl44
                  obtain ⟨t59, hm, hz59⟩ := bn hz59
                  unfold m_X6_ask_L59 at hm
                  refine lv_iload hx hb dX6_ask_59 (lv_at hl44 4 rfl) ?_
                  refine lv_bipush (v := (36 : Int32)) hx hb dX6_ask_61 (by decide) ?_
                  refine lv_icmp_ge (tgt := 134) hx hb dX6_ask_63 (by decide) (fun c63 => ?_) (fun c63 => ?_)
                  · replace hm := tp hm c63
                    cases hm
                    cases hz59
                    exact hE59 (z59.1, z59.2) hK59 _ _ hP45 hD45 hS45 _ (lv_sub hl44 [0, 1, 2, 3] rfl)
                  · replace hm := tn hm c63
                    refine lv_aload_n hx hb dX6_ask_66 rfl (lv_at hl44 1 rfl) ?_
                    refine va_get (D := D) (ci := 6) (v := .ref (a 33)) (C := RX6) (T := TX6) (N := 40) hx hb hW iX6 hown hK hP45 0 rfl rfl 33 (by decide) (hW _ k_900) (fun _ h => h) rfl dX6_ask_67 ?_
                    refine lv_iload hx hb dX6_ask_70 (lv_at hl44 4 rfl) ?_
                    refine lv_dup2_11 hx hb dX6_ask_72 rfl rfl ?_
                    obtain ⟨h49, hm⟩ := ckd hm
                    refine va_iald (f := (z59.2 33)) hx hb hK hP45 13 0 rfl rfl (inB_vp h49) dX6_ask_73 ?_
                    refine lv_iload hx hb dX6_ask_74 (lv_at hl44 4 rfl) ?_
                    refine lv_bipush (v := (6 : Int32)) hx hb dX6_ask_76 (by decide) ?_
                    refine lv_idiv hx hb dX6_ask_78 (by decide) ?_
                    refine lv_aload_n hx hb dX6_ask_79 rfl (lv_at hl44 1 rfl) ?_
                    refine va_get (D := D) (ci := 6) (v := .int (z59.2 0 1)) (C := RX6) (T := TX6) (N := 40) hx hb hW iX6 hown hK hP45 0 rfl rfl 1 (by decide) (hW _ k_868) (fun _ h => h) rfl dX6_ask_80 ?_
                    refine lv_icmp_ge (tgt := 125) hx hb dX6_ask_83 (by decide) (fun c83 => ?_) (fun c83 => ?_)
                    · replace hm := tp hm c83
                      refine lv_iconst (v := (0 : Int32)) hx hb dX6_ask_125 (by decide) ?_
                      refine lv_iadd hx hb dX6_ask_126 ?_
                      obtain ⟨h50, hm⟩ := ckd hm
                      refine va_iast (f := (z59.2 33)) hx hb hK hP45 hD45 hS45 13 0 rfl rfl (inB_vp h50) dX6_ask_127 (fun H51 locs51 hP hD hS51 => ?_)
                      obtain ⟨v51_, e51, hm⟩ := ltd hm
                      have hP51 : va_P D cls (wX6 q a v51_) H51 := by rw [e51]; exact hP
                      have hD51 : va_D (va_A (wX6 q a v) s.heap.size) (wX6 q a v51_) := by rw [e51]; exact hD
                      clear hP hD hP45 hD45 hS45
                      refine lv_iinc (v := (z59.1 + (1 : Int32))) (lv' := [(4, .int (z59.1 + (1 : Int32))), (2, .int (z37.1 + (1 : Int32))), (0, .ref (a 99)), (1, .int x1), (3, .int z37.2.1)]) hx hb dX6_ask_128 hl44 (k := 4) rfl rfl (by decide) rfl (fun ls52 hl52 => ?_)
                      clear hl44
                      refine lv_goto (tgt := 59) hx hb dX6_ask_131 (by decide) ?_
                      cases hm
                      exact ih59 ((z59.1 + (1 : Int32)), v51_) ρ59 hz59 hK59 _ _ hP51 hD51 hS51 _ (lv_sub hl52 [1, 2, 3, 4, 0] rfl)
                    · replace hm := tn hm c83
                      refine lv_iload hx hb dX6_ask_86 (lv_at hl44 4 rfl) ?_
                      refine lv_bipush (v := (6 : Int32)) hx hb dX6_ask_88 (by decide) ?_
                      refine lv_irem hx hb dX6_ask_90 (by decide) ?_
                      refine lv_aload_n hx hb dX6_ask_91 rfl (lv_at hl44 1 rfl) ?_
                      refine va_get (D := D) (ci := 6) (v := .int (z59.2 0 1)) (C := RX6) (T := TX6) (N := 40) hx hb hW iX6 hown hK hP45 0 rfl rfl 1 (by decide) (hW _ k_868) (fun _ h => h) rfl dX6_ask_92 ?_
                      refine lv_icmp_ge (tgt := 125) hx hb dX6_ask_95 (by decide) (fun c95 => ?_) (fun c95 => ?_)
                      · replace hm := tp hm c95
                        refine lv_iconst (v := (0 : Int32)) hx hb dX6_ask_125 (by decide) ?_
                        refine lv_iadd hx hb dX6_ask_126 ?_
                        obtain ⟨h53, hm⟩ := ckd hm
                        refine va_iast (f := (z59.2 33)) hx hb hK hP45 hD45 hS45 13 0 rfl rfl (inB_vp h53) dX6_ask_127 (fun H54 locs54 hP hD hS54 => ?_)
                        obtain ⟨v54_, e54, hm⟩ := ltd hm
                        have hP54 : va_P D cls (wX6 q a v54_) H54 := by rw [e54]; exact hP
                        have hD54 : va_D (va_A (wX6 q a v) s.heap.size) (wX6 q a v54_) := by rw [e54]; exact hD
                        clear hP hD hP45 hD45 hS45
                        refine lv_iinc (v := (z59.1 + (1 : Int32))) (lv' := [(4, .int (z59.1 + (1 : Int32))), (2, .int (z37.1 + (1 : Int32))), (0, .ref (a 99)), (1, .int x1), (3, .int z37.2.1)]) hx hb dX6_ask_128 hl44 (k := 4) rfl rfl (by decide) rfl (fun ls55 hl55 => ?_)
                        clear hl44
                        refine lv_goto (tgt := 59) hx hb dX6_ask_131 (by decide) ?_
                        cases hm
                        exact ih59 ((z59.1 + (1 : Int32)), v54_) ρ59 hz59 hK59 _ _ hP54 hD54 hS54 _ (lv_sub hl55 [1, 2, 3, 4, 0] rfl)
                      · replace hm := tn hm c95
                        refine lv_aload_n hx hb dX6_ask_98 rfl (lv_at hl44 1 rfl) ?_
                        refine va_get (D := D) (ci := 6) (v := .ref (a 30)) (C := RX6) (T := TX6) (N := 40) hx hb hW iX6 hown hK hP45 0 rfl rfl 30 (by decide) (hW _ k_897) (fun _ h => h) rfl dX6_ask_99 ?_
                        refine lv_iload hx hb dX6_ask_102 (lv_at hl44 4 rfl) ?_
                        refine lv_bipush (v := (6 : Int32)) hx hb dX6_ask_104 (by decide) ?_
                        refine lv_idiv hx hb dX6_ask_106 (by decide) ?_
                        obtain ⟨h56, hm⟩ := ckd hm
                        refine va_iald (f := (z59.2 30)) hx hb hK hP45 11 0 rfl rfl (inB_vp h56) dX6_ask_107 ?_
                        refine lv_aload_n hx hb dX6_ask_108 rfl (lv_at hl44 1 rfl) ?_
                        refine va_get (D := D) (ci := 6) (v := .ref (a 30)) (C := RX6) (T := TX6) (N := 40) hx hb hW iX6 hown hK hP45 0 rfl rfl 30 (by decide) (hW _ k_897) (fun _ h => h) rfl dX6_ask_109 ?_
                        refine lv_iload hx hb dX6_ask_112 (lv_at hl44 4 rfl) ?_
                        refine lv_bipush (v := (6 : Int32)) hx hb dX6_ask_114 (by decide) ?_
                        refine lv_irem hx hb dX6_ask_116 (by decide) ?_
                        obtain ⟨h57, hm⟩ := ckd hm
                        refine va_iald (f := (z59.2 30)) hx hb hK hP45 11 0 rfl rfl (inB_vp h57) dX6_ask_117 ?_
                        refine lv_icmp_ne (tgt := 125) hx hb dX6_ask_118 (by decide) (fun c118 => ?_) (fun c118 => ?_)
                        · replace hm := tn hm c118
                          refine lv_iconst (v := (0 : Int32)) hx hb dX6_ask_125 (by decide) ?_
                          refine lv_iadd hx hb dX6_ask_126 ?_
                          obtain ⟨h61, hm⟩ := ckd hm
                          refine va_iast (f := (z59.2 33)) hx hb hK hP45 hD45 hS45 13 0 rfl rfl (inB_vp h61) dX6_ask_127 (fun H62 locs62 hP hD hS62 => ?_)
                          obtain ⟨v62_, e62, hm⟩ := ltd hm
                          have hP62 : va_P D cls (wX6 q a v62_) H62 := by rw [e62]; exact hP
                          have hD62 : va_D (va_A (wX6 q a v) s.heap.size) (wX6 q a v62_) := by rw [e62]; exact hD
                          clear hP hD hP45 hD45 hS45
                          refine lv_iinc (v := (z59.1 + (1 : Int32))) (lv' := [(4, .int (z59.1 + (1 : Int32))), (2, .int (z37.1 + (1 : Int32))), (0, .ref (a 99)), (1, .int x1), (3, .int z37.2.1)]) hx hb dX6_ask_128 hl44 (k := 4) rfl rfl (by decide) rfl (fun ls63 hl63 => ?_)
                          clear hl44
                          refine lv_goto (tgt := 59) hx hb dX6_ask_131 (by decide) ?_
                          cases hm
                          exact ih59 ((z59.1 + (1 : Int32)), v62_) ρ59 hz59 hK59 _ _ hP62 hD62 hS62 _ (lv_sub hl63 [1, 2, 3, 4, 0] rfl)
                        · replace hm := tp hm c118
                          refine lv_iconst (v := (1 : Int32)) hx hb dX6_ask_121 (by decide) ?_
                          refine lv_goto (tgt := 126) hx hb dX6_ask_122 (by decide) ?_
                          refine lv_iadd hx hb dX6_ask_126 ?_
                          obtain ⟨h58, hm⟩ := ckd hm
                          refine va_iast (f := (z59.2 33)) hx hb hK hP45 hD45 hS45 13 0 rfl rfl (inB_vp h58) dX6_ask_127 (fun H59 locs59 hP hD hS59 => ?_)
                          obtain ⟨v59_, e59, hm⟩ := ltd hm
                          have hP59 : va_P D cls (wX6 q a v59_) H59 := by rw [e59]; exact hP
                          have hD59 : va_D (va_A (wX6 q a v) s.heap.size) (wX6 q a v59_) := by rw [e59]; exact hD
                          clear hP hD hP45 hD45 hS45
                          refine lv_iinc (v := (z59.1 + (1 : Int32))) (lv' := [(4, .int (z59.1 + (1 : Int32))), (2, .int (z37.1 + (1 : Int32))), (0, .ref (a 99)), (1, .int x1), (3, .int z37.2.1)]) hx hb dX6_ask_128 hl44 (k := 4) rfl rfl (by decide) rfl (fun ls60 hl60 => ?_)
                          clear hl44
                          refine lv_goto (tgt := 59) hx hb dX6_ask_131 (by decide) ?_
                          cases hm
                          exact ih59 ((z59.1 + (1 : Int32)), v59_) ρ59 hz59 hK59 _ _ hP59 hD59 hS59 _ (lv_sub hl60 [1, 2, 3, 4, 0] rfl)
              exact hL59 n59 ((0 : Int32), y47.2) r59 hn59 hm _ _ hP40 hD40 hS40 _ (lv_sub hl43 [1, 2, 3, 4, 0] rfl)
      exact hL37 n37 ((0 : Int32), (0 : Int32), z16.2) r37 hn37 hm _ _ hP6 hD6 hS6 _ (lv_sub hl7 [2, 3, 1, 0] rfl)
    have hL16 : ∀ (n : Nat) (z16 : Int32 × SV) (ρ16 : Int32 × SV), lpO (m_X6_ask_L16) n z16 = some ρ16 → (m_X6_ask_K16 x1) ρ16 = some res → ∀ (H : Heap) (locs : List Loc), va_P D cls (wX6 q a z16.2) H → va_D (va_A (wX6 q a v) s.heap.size) (wX6 q a z16.2) → va_S (va_A (wX6 q a v) s.heap.size) s.heap H locs → ∀ ls : Array Slot, lv_has ls 9 [(2, .int (0 : Int32)), (0, .ref (a 99)), (1, .int x1), (3, .int z16.1)] → W p l e ((headSpec (mw yX6_ask cX6_ask 9 (some .int)) ({ frames := 5, cells := 0, slots := 0, locals := 119 } : Room)).room) s m [.ref (a 99), .int x1].toArray below meth c H locs 0 0 (MQ below (va_Qi (fun r w => r = res.1 ∧ w = res.2) (bW D q (wX6 q a v) s.heap.size (fun (uu : SV) => wX6 q a uu)) (va_A (wX6 q a v) s.heap.size)) [.ref (a 99), .int x1].toArray s 0 0 (va_A (wX6 q a v) s.heap.size)) (F0 m 16 ls []) := by
      intro n
      induction n with
      | zero => intro _ _ h; cases h
      | succ n ih16 =>
        intro z16 ρ16 hz16 hK16 H4 locs4 hP4 hD4 hS4 ls3 hl3
        obtain ⟨t16, hm, hz16⟩ := bn hz16
        unfold m_X6_ask_L16 at hm
        refine lv_iload_n hx hb dX6_ask_16 rfl (lv_at hl3 3 rfl) ?_
        refine lv_bipush (v := (36 : Int32)) hx hb dX6_ask_17 (by decide) ?_
        refine lv_icmp_ge (tgt := 35) hx hb dX6_ask_19 (by decide) (fun c19 => ?_) (fun c19 => ?_)
        · replace hm := tp hm c19
          cases hm
          cases hz16
          exact hE16 (z16.1, z16.2) hK16 _ _ hP4 hD4 hS4 _ (lv_sub hl3 [0, 1, 2] rfl)
        · replace hm := tn hm c19
          refine lv_aload_n hx hb dX6_ask_22 rfl (lv_at hl3 1 rfl) ?_
          refine va_get (D := D) (ci := 6) (v := .ref (a 33)) (C := RX6) (T := TX6) (N := 40) hx hb hW iX6 hown hK hP4 0 rfl rfl 33 (by decide) (hW _ k_900) (fun _ h => h) rfl dX6_ask_23 ?_
          refine lv_iload_n hx hb dX6_ask_26 rfl (lv_at hl3 3 rfl) ?_
          refine lv_iconst (v := (0 : Int32)) hx hb dX6_ask_27 (by decide) ?_
          obtain ⟨h64, hm⟩ := ckd hm
          refine va_iast (f := (z16.2 33)) hx hb hK hP4 hD4 hS4 13 0 rfl rfl (inB_vp h64) dX6_ask_28 (fun H65 locs65 hP hD hS65 => ?_)
          obtain ⟨v65_, e65, hm⟩ := ltd hm
          have hP65 : va_P D cls (wX6 q a v65_) H65 := by rw [e65]; exact hP
          have hD65 : va_D (va_A (wX6 q a v) s.heap.size) (wX6 q a v65_) := by rw [e65]; exact hD
          clear hP hD hP4 hD4 hS4
          refine lv_iinc (v := (z16.1 + (1 : Int32))) (lv' := [(3, .int (z16.1 + (1 : Int32))), (2, .int (0 : Int32)), (0, .ref (a 99)), (1, .int x1)]) hx hb dX6_ask_29 hl3 (k := 3) rfl rfl (by decide) rfl (fun ls66 hl66 => ?_)
          clear hl3
          refine lv_goto (tgt := 16) hx hb dX6_ask_32 (by decide) ?_
          cases hm
          exact ih16 ((z16.1 + (1 : Int32)), v65_) ρ16 hz16 hK16 _ _ hP65 hD65 hS65 _ (lv_sub hl66 [1, 2, 3, 0] rfl)
    exact hL16 n16 ((0 : Int32), v) r16 hn16 hm _ _ hP0 hD0 hS0 _ (lv_sub hl2 [1, 2, 3, 0] rfl)
  · replace hm := tp hm c7
    refine lv_iconst (v := (-1 : Int32)) hx hb dX6_ask_10 (by decide) ?_
    exact eWi (Wf := fun (uu : SV) => wX6 q a uu) (u := v) X hr hlocks hP0 hD0 hS0 hm dX6_ask_11
noncomputable def m_X6_draws (v : SV) (x1 : Int32) : Option (Int32 × SV) :=
  lett (up2 v 0 34 (((v 0 34) * (1103515245 : Int32)) + (12345 : Int32))) (fun v1_ => ck (dvB x1) (some (((((v1_ 0 34) >>> ((16 : Int32) &&& 31)) &&& (32767 : Int32)) - (((v1_ 0 34) >>> ((16 : Int32) &&& 31)) &&& (32767 : Int32)) / x1 * x1), v1_)))
set_option maxHeartbeats 4000000 in
set_option maxRecDepth 100000 in
theorem c_X6_draws (l : Launch) (D : va_G) (q : Nat → ClassId) (sz : Nat) (a : Nat → Nat) (v : SV) (x1 : Int32) (res : Int32 × SV) (hm : m_X6_draws v x1 = some res) : Met l yX6_draws (mw yX6_draws cX6_draws 2 (some .int)) ({ frames := 0, cells := 0, slots := 0, locals := 0 } : Room) (pcW D q (wX6 q a v) sz [.ref (a 99), .int x1]) (va_Qi (fun r w => r = res.1 ∧ w = res.2) (bW D q (wX6 q a v) sz (fun (uu : SV) => wX6 q a uu)) (va_A (wX6 q a v) sz)) 0 0 (va_A (wX6 q a v) sz) := by
  refine Met.ofW (cc := cX6_draws) (maxL := 2) (ret := (some .int)) (by decide) rfl ?_
  intro p e s m args below meth c s₁ B hml hv
  obtain ⟨rfl, hsz, hP0, hK, hD0⟩ := hv
  have hx := B.exec
  have hb := B.bytes
  have hr := B.returns
  have hW := mw_ws (atoms_spec (ws := mw yX6_draws cX6_draws 2 (some .int)) B.pre)
  have hown : s.vm.findClass RX6 = some m.cls := findClass_of_methodNamed B.named
  have hlocks := B.notSynchronized
  have X : Cx p s m [.ref (a 99), .int x1].toArray c cX6_draws 2 RX6 D q := ⟨hx, hb, hml, hown, hW, hK⟩
  subst hsz
  replace hD0 := hD0.self (sz := s.heap.size)
  have hS0 : va_S (va_A (wX6 q a v) s.heap.size) s.heap s.heap [] := va_S.rf
  have hl0 := lv_entry ([.ref (a 99), .int x1]) (n := 2) (Nat.le_of_ble_eq_true rfl)
  rw [lg_entry_eq]
  generalize (lg_sl ([.ref (a 99), .int x1]) ++ List.replicate (2 - (lg_sl ([.ref (a 99), .int x1])).length) Slot.unset).toArray = ls0 at hl0 ⊢
  have hl0 : lv_has ls0 2 [(0, .ref (a 99)), (1, .int x1)] := hl0
  unfold m_X6_draws at hm
  refine lv_aload_n hx hb dX6_draws_0 rfl (lv_at hl0 0 rfl) ?_
  refine lv_aload_n hx hb dX6_draws_1 rfl (lv_at hl0 0 rfl) ?_
  refine va_get (D := D) (ci := 6) (v := .int (v 0 34)) (C := RX6) (T := TX6) (N := 40) hx hb hW iX6 hown hK hP0 0 rfl rfl 34 (by decide) (hW _ k_901) (fun _ h => h) rfl dX6_draws_2 ?_
  refine lv_ldcw (v := (1103515245 : Int32)) hx hb hown (hW _ k_1299) dX6_draws_5 ?_
  refine lv_imul hx hb dX6_draws_8 ?_
  refine lv_sipush (v := (12345 : Int32)) hx hb dX6_draws_9 (by decide) ?_
  refine lv_iadd hx hb dX6_draws_12 ?_
  refine va_put (D := D) (ci := 6) (v := .int (((v 0 34) * (1103515245 : Int32)) + (12345 : Int32))) (ty := .int) (C := RX6) (T := TX6) (N := 40) hx hb hW iX6 tyX6 tyX6_ok nmX6 hown hK hP0 hD0 hS0 0 rfl rfl 34 (by decide) (hW _ k_901) (fun _ h => h) rfl (by decide +kernel) rfl rfl (Nat.le_of_ble_eq_true rfl) dX6_draws_13 (fun H1 locs1 hP hD hS1 => ?_)
  obtain ⟨v1_, e1, hm⟩ := ltd hm
  have hP1 : va_P D cls (wX6 q a v1_) H1 := by rw [e1]; exact hP
  have hD1 : va_D (va_A (wX6 q a v) s.heap.size) (wX6 q a v1_) := by rw [e1]; exact hD
  clear hP hD hP0 hD0 hS0
  refine lv_aload_n hx hb dX6_draws_16 rfl (lv_at hl0 0 rfl) ?_
  refine va_get (D := D) (ci := 6) (v := .int (v1_ 0 34)) (C := RX6) (T := TX6) (N := 40) hx hb hW iX6 hown hK hP1 0 rfl rfl 34 (by decide) (hW _ k_901) (fun _ h => h) rfl dX6_draws_17 ?_
  refine lv_bipush (v := (16 : Int32)) hx hb dX6_draws_20 (by decide) ?_
  refine lv_ishr hx hb dX6_draws_22 ?_
  refine lv_sipush (v := (32767 : Int32)) hx hb dX6_draws_23 (by decide) ?_
  refine lv_iand hx hb dX6_draws_26 ?_
  refine lv_iload_n hx hb dX6_draws_27 rfl (lv_at hl0 1 rfl) ?_
  obtain ⟨h2, hm⟩ := ckd hm
  refine lv_irem hx hb dX6_draws_28 (dv_ne h2) ?_
  exact eWi (Wf := fun (uu : SV) => wX6 q a uu) (u := v1_) X hr hlocks hP1 hD1 hS1 hm dX6_draws_29
noncomputable def m_X6_drift_K50 (x3 : Int32) (z50 : Int32 × SV) : Option (Int32 × SV) :=
  (if x3 = 0 then (m_X6_valueOn z50.2 (252 : Int32) (((1 : Int32) <<< ((z50.2 0 2) &&& 31)) - (1 : Int32))).bind (fun y105 => some (y105, z50.2)) else (m_X6_likeBondsOn z50.2 (252 : Int32)).bind (fun y115 => some (y115, z50.2)))
noncomputable def m_X6_drift_L50 (x2 : Int32) (z50 : Int32 × SV) : Option ((Int32 × SV) ⊕ (Int32 × SV)) :=
  (if x2 ≤ z50.1 then some (.inr (z50.1, z50.2)) else (m_X6_draws z50.2 (z50.2 0 1)).bind (fun y61 => (m_X6_draws y61.2 (y61.2 0 2)).bind (fun y77 => (m_X6_paintsOn y77.2 (252 : Int32) y61.1 y77.1).bind (fun y80 => some (.inl ((z50.1 + (1 : Int32)), y80))))))
noncomputable def m_X6_drift (v : SV) (x1 : Int32) (x2 : Int32) (x3 : Int32) : Option (Int32 × SV) :=
  (m_X6_in (x2.toInt64) (1 : Int64) (60 : Int64)).bind (fun y6 => (if y6 = 0 then some ((-1 : Int32), v) else (m_X6_in (x3.toInt64) (0 : Int64) (1 : Int64)).bind (fun y16 => (if y16 = 0 then some ((-1 : Int32), v) else (if (v 0 2) = 0 then some ((-2 : Int32), v) else (m_X6_copies v (0 : Int32) (252 : Int32)).bind (fun y39 => lett (up2 y39 0 34 x1) (fun v2_ => (lpC (m_X6_drift_L50 x2) ((0 : Int32), v2_)).bind (m_X6_drift_K50 x3))))))))
set_option maxHeartbeats 4000000 in
set_option maxRecDepth 100000 in
theorem c_X6_drift (l : Launch) (D : va_G) (q : Nat → ClassId) (sz : Nat) (a : Nat → Nat) (v : SV) (x1 : Int32) (x2 : Int32) (x3 : Int32) (res : Int32 × SV) (hm : m_X6_drift v x1 x2 x3 = some res) : Met l yX6_drift (mw yX6_drift cX6_drift 6 (some .int)) ({ frames := 5, cells := 0, slots := 0, locals := 122 } : Room) (pcW D q (wX6 q a v) sz [.ref (a 99), .int x1, .int x2, .int x3]) (va_Qi (fun r w => r = res.1 ∧ w = res.2) (bW D q (wX6 q a v) sz (fun (uu : SV) => wX6 q a uu)) (va_A (wX6 q a v) sz)) 0 0 (va_A (wX6 q a v) sz) := by
  refine Met.ofW (cc := cX6_drift) (maxL := 6) (ret := (some .int)) (by decide) rfl ?_
  intro p e s m args below meth c s₁ B hml hv
  obtain ⟨rfl, hsz, hP0, hK, hD0⟩ := hv
  have hx := B.exec
  have hb := B.bytes
  have hr := B.returns
  have hW := mw_ws (atoms_spec (ws := mw yX6_drift cX6_drift 6 (some .int)) B.pre)
  have hown : s.vm.findClass RX6 = some m.cls := findClass_of_methodNamed B.named
  have hlocks := B.notSynchronized
  have X : Cx p s m [.ref (a 99), .int x1, .int x2, .int x3].toArray c cX6_drift 6 RX6 D q := ⟨hx, hb, hml, hown, hW, hK⟩
  subst hsz
  replace hD0 := hD0.self (sz := s.heap.size)
  have hS0 : va_S (va_A (wX6 q a v) s.heap.size) s.heap s.heap [] := va_S.rf
  have hl0 := lv_entry ([.ref (a 99), .int x1, .int x2, .int x3]) (n := 6) (Nat.le_of_ble_eq_true rfl)
  rw [lg_entry_eq]
  generalize (lg_sl ([.ref (a 99), .int x1, .int x2, .int x3]) ++ List.replicate (6 - (lg_sl ([.ref (a 99), .int x1, .int x2, .int x3])).length) Slot.unset).toArray = ls0 at hl0 ⊢
  have hl0 : lv_has ls0 6 [(0, .ref (a 99)), (1, .int x1), (2, .int x2), (3, .int x3)] := hl0
  unfold m_X6_drift at hm
  refine lv_iload_n hx hb dX6_drift_0 rfl (lv_at hl0 2 rfl) ?_
  refine lv_i2l hx hb dX6_drift_1 rfl ?_
  refine lv_lconst (v := (1 : Int64)) hx hb dX6_drift_2 (by decide) ?_
  refine lv_ldc2 (v := (60 : Int64)) hx hb hown (hW _ k_1170) dX6_drift_3 ?_
  obtain ⟨y6, hy6, hm⟩ := bn hm
  refine cSRi (As := [.long (x2.toInt64), .long (1 : Int64), .long (60 : Int64)]) (rest := []) X hP0 hl0.1 (c_X6_in l D q (x2.toInt64) (1 : Int64) (60 : Int64) y6 hy6) [] rfl k_993 mX6_in ⟨rfl, rfl⟩ ⟨Nat.le_of_ble_eq_true rfl, Nat.le_of_ble_eq_true rfl⟩ rfl rfl (Nat.le_of_ble_eq_true rfl) dX6_drift_6 ⟨Nat.zero_le _, Nat.zero_le _⟩ ?_
  refine lv_if_eq (tgt := 22) hx hb dX6_drift_9 (by decide) (fun c9 => ?_) (fun c9 => ?_)
  · replace hm := tp hm c9
    refine lv_iconst (v := (-1 : Int32)) hx hb dX6_drift_22 (by decide) ?_
    exact eWi (Wf := fun (uu : SV) => wX6 q a uu) (u := v) X hr hlocks hP0 hD0 hS0 hm dX6_drift_23
  · replace hm := tn hm c9
    refine lv_iload_n hx hb dX6_drift_12 rfl (lv_at hl0 3 rfl) ?_
    refine lv_i2l hx hb dX6_drift_13 rfl ?_
    refine lv_lconst (v := (0 : Int64)) hx hb dX6_drift_14 (by decide) ?_
    refine lv_lconst (v := (1 : Int64)) hx hb dX6_drift_15 (by decide) ?_
    obtain ⟨y16, hy16, hm⟩ := bn hm
    refine cSRi (As := [.long (x3.toInt64), .long (0 : Int64), .long (1 : Int64)]) (rest := []) X hP0 hl0.1 (c_X6_in l D q (x3.toInt64) (0 : Int64) (1 : Int64) y16 hy16) [] rfl k_993 mX6_in ⟨rfl, rfl⟩ ⟨Nat.le_of_ble_eq_true rfl, Nat.le_of_ble_eq_true rfl⟩ rfl rfl (Nat.le_of_ble_eq_true rfl) dX6_drift_16 ⟨Nat.zero_le _, Nat.zero_le _⟩ ?_
    refine lv_if_ne (tgt := 24) hx hb dX6_drift_19 (by decide) (fun c19 => ?_) (fun c19 => ?_)
    · replace hm := tn hm c19
      refine lv_aload_n hx hb dX6_drift_24 rfl (lv_at hl0 0 rfl) ?_
      refine va_get (D := D) (ci := 6) (v := .int (v 0 2)) (C := RX6) (T := TX6) (N := 40) hx hb hW iX6 hown hK hP0 0 rfl rfl 2 (by decide) (hW _ k_869) (fun _ h => h) rfl dX6_drift_25 ?_
      refine lv_if_ne (tgt := 34) hx hb dX6_drift_28 (by decide) (fun c28 => ?_) (fun c28 => ?_)
      · replace hm := tn hm c28
        refine lv_aload_n hx hb dX6_drift_34 rfl (lv_at hl0 0 rfl) ?_
        refine lv_iconst (v := (0 : Int32)) hx hb dX6_drift_35 (by decide) ?_
        refine lv_sipush (v := (252 : Int32)) hx hb dX6_drift_36 (by decide) ?_
        obtain ⟨y39, hy39, hm⟩ := bn hm
        refine cVWv (As := [.int (0 : Int32), .int (252 : Int32)]) (rest := []) (Wn := fun (uu : SV) => wX6 q a uu) X hP0 hD0 hS0 (fun _ h => Or.inr h) hl0.1 (c_X6_copies l D q s.heap.size a v (0 : Int32) (252 : Int32) y39 hy39) [0, 1, 2, 3, 4, 5, 6, 7, 8, 9, 10, 11, 12, 13, 14, 15, 16, 17] [] [0, 1, 2, 3, 4, 5, 6, 7, 8, 9, 10, 11, 12, 13, 14, 15, 16, 17] rfl (Wr := []) rfl (by decide) (by decide) (by decide) (by decide) (fun _ => rfl) 0 rfl rfl rfl k_1183 mX6_copies ⟨rfl, rfl⟩ ⟨Nat.le_of_ble_eq_true rfl, Nat.le_of_ble_eq_true rfl⟩ rfl rfl (Nat.le_of_ble_eq_true rfl) dX6_drift_39 ⟨Nat.zero_le _, Nat.zero_le _⟩ (fun H1 locs1 hP hD hS1 => ?_)
        have hP1 : va_P D cls (wX6 q a y39) H1 := hP
        have hD1 : va_D (va_A (wX6 q a v) s.heap.size) (wX6 q a y39) := hD
        clear hP hD hP0 hD0 hS0
        refine lv_aload_n hx hb dX6_drift_42 rfl (lv_at hl0 0 rfl) ?_
        refine lv_iload_n hx hb dX6_drift_43 rfl (lv_at hl0 1 rfl) ?_
        refine va_put (D := D) (ci := 6) (v := .int x1) (ty := .int) (C := RX6) (T := TX6) (N := 40) hx hb hW iX6 tyX6 tyX6_ok nmX6 hown hK hP1 hD1 hS1 0 rfl rfl 34 (by decide) (hW _ k_901) (fun _ h => h) rfl (by decide +kernel) rfl rfl (Nat.le_of_ble_eq_true rfl) dX6_drift_44 (fun H2 locs2 hP hD hS2 => ?_)
        obtain ⟨v2_, e2, hm⟩ := ltd hm
        have hP2 : va_P D cls (wX6 q a v2_) H2 := by rw [e2]; exact hP
        have hD2 : va_D (va_A (wX6 q a v) s.heap.size) (wX6 q a v2_) := by rw [e2]; exact hD
        clear hP hD hP1 hD1 hS1
        refine lv_iconst (v := (0 : Int32)) hx hb dX6_drift_47 (by decide) ?_
        refine lv_istore (lv' := [(4, .int (0 : Int32)), (0, .ref (a 99)), (1, .int x1), (2, .int x2), (3, .int x3)]) hx hb dX6_drift_48 hl0 (by decide) rfl (fun ls3 hl3 => ?_)
        clear hl0
        obtain ⟨r50, hr50, hm⟩ := bn hm
        obtain ⟨n50, hn50⟩ := lpC_ex hr50
        have hE50 : ∀ z50 : Int32 × SV, m_X6_drift_K50 x3 z50 = some res → ∀ (H : Heap) (locs : List Loc), va_P D cls (wX6 q a z50.2) H → va_D (va_A (wX6 q a v) s.heap.size) (wX6 q a z50.2) → va_S (va_A (wX6 q a v) s.heap.size) s.heap H locs → ∀ ls : Array Slot, lv_has ls 6 [(0, .ref (a 99)), (3, .int x3)] → W p l e ((headSpec (mw yX6_drift cX6_drift 6 (some .int)) ({ frames := 5, cells := 0, slots := 0, locals := 122 } : Room)).room) s m [.ref (a 99), .int x1, .int x2, .int x3].toArray below meth c H locs 0 0 (MQ below (va_Qi (fun r w => r = res.1 ∧ w = res.2) (bW D q (wX6 q a v) s.heap.size (fun (uu : SV) => wX6 q a uu)) (va_A (wX6 q a v) s.heap.size)) [.ref (a 99), .int x1, .int x2, .int x3].toArray s 0 0 (va_A (wX6 q a v) s.heap.size)) (F0 m 89 ls []) := by
          intro z50 hm H7 locs7 hP7 hD7 hS7 ls6 hl6
          unfold m_X6_drift_K50 at hm
          refine lv_iload_n hx hb dX6_drift_89 rfl (lv_at hl6 1 rfl) ?_
          refine lv_if_ne (tgt := 111) hx hb dX6_drift_90 (by decide) (fun c90 => ?_) (fun c90 => ?_)
          · replace hm := tn hm c90
            refine lv_aload_n hx hb dX6_drift_111 rfl (lv_at hl6 0 rfl) ?_
            refine lv_sipush (v := (252 : Int32)) hx hb dX6_drift_112 (by decide) ?_
            obtain ⟨y115, hy115, hm⟩ := bn hm
            refine cVRi (As := [.int (252 : Int32)]) (rest := []) X hP7 hl6.1 (c_X6_likeBondsOn l D q a z50.2 (252 : Int32) y115 hy115) [0, 1, 2, 3, 4, 5, 6, 7, 8, 9, 10, 11, 12, 13, 14, 15, 16, 17] rfl 0 rfl rfl rfl k_1225 mX6_likeBondsOn ⟨rfl, rfl⟩ ⟨Nat.le_of_ble_eq_true rfl, Nat.le_of_ble_eq_true rfl⟩ rfl rfl (Nat.le_of_ble_eq_true rfl) dX6_drift_115 ⟨Nat.zero_le _, Nat.zero_le _⟩ ?_
            exact eWi (Wf := fun (uu : SV) => wX6 q a uu) (u := z50.2) X hr hlocks hP7 hD7 hS7 hm dX6_drift_118
          · replace hm := tp hm c90
            refine lv_aload_n hx hb dX6_drift_93 rfl (lv_at hl6 0 rfl) ?_
            refine lv_sipush (v := (252 : Int32)) hx hb dX6_drift_94 (by decide) ?_
            refine lv_iconst (v := (1 : Int32)) hx hb dX6_drift_97 (by decide) ?_
            refine lv_aload_n hx hb dX6_drift_98 rfl (lv_at hl6 0 rfl) ?_
            refine va_get (D := D) (ci := 6) (v := .int (z50.2 0 2)) (C := RX6) (T := TX6) (N := 40) hx hb hW iX6 hown hK hP7 0 rfl rfl 2 (by decide) (hW _ k_869) (fun _ h => h) rfl dX6_drift_99 ?_
            refine lv_ishl hx hb dX6_drift_102 ?_
            refine lv_iconst (v := (1 : Int32)) hx hb dX6_drift_103 (by decide) ?_
            refine lv_isub hx hb dX6_drift_104 ?_
            obtain ⟨y105, hy105, hm⟩ := bn hm
            refine cVRi (As := [.int (252 : Int32), .int (((1 : Int32) <<< ((z50.2 0 2) &&& 31)) - (1 : Int32))]) (rest := []) X hP7 hl6.1 (c_X6_valueOn l D q a z50.2 (252 : Int32) (((1 : Int32) <<< ((z50.2 0 2) &&& 31)) - (1 : Int32)) y105 hy105) [0, 1, 2, 3, 4, 5, 6, 7, 8, 9, 10, 11, 12, 13, 14, 15, 16, 17] rfl 0 rfl rfl rfl k_1233 mX6_valueOn ⟨rfl, rfl⟩ ⟨Nat.le_of_ble_eq_true rfl, Nat.le_of_ble_eq_true rfl⟩ rfl rfl (Nat.le_of_ble_eq_true rfl) dX6_drift_105 ⟨Nat.zero_le _, Nat.zero_le _⟩ ?_
            refine lv_goto (tgt := 118) hx hb dX6_drift_108 (by decide) ?_
            exact eWi (Wf := fun (uu : SV) => wX6 q a uu) (u := z50.2) X hr hlocks hP7 hD7 hS7 hm dX6_drift_118
        have hL50 : ∀ (n : Nat) (z50 : Int32 × SV) (ρ50 : Int32 × SV), lpO (m_X6_drift_L50 x2) n z50 = some ρ50 → (m_X6_drift_K50 x3) ρ50 = some res → ∀ (H : Heap) (locs : List Loc), va_P D cls (wX6 q a z50.2) H → va_D (va_A (wX6 q a v) s.heap.size) (wX6 q a z50.2) → va_S (va_A (wX6 q a v) s.heap.size) s.heap H locs → ∀ ls : Array Slot, lv_has ls 6 [(0, .ref (a 99)), (2, .int x2), (3, .int x3), (4, .int z50.1)] → W p l e ((headSpec (mw yX6_drift cX6_drift 6 (some .int)) ({ frames := 5, cells := 0, slots := 0, locals := 122 } : Room)).room) s m [.ref (a 99), .int x1, .int x2, .int x3].toArray below meth c H locs 0 0 (MQ below (va_Qi (fun r w => r = res.1 ∧ w = res.2) (bW D q (wX6 q a v) s.heap.size (fun (uu : SV) => wX6 q a uu)) (va_A (wX6 q a v) s.heap.size)) [.ref (a 99), .int x1, .int x2, .int x3].toArray s 0 0 (va_A (wX6 q a v) s.heap.size)) (F0 m 50 ls []) := by
          intro n
          induction n with
          | zero => intro _ _ h; cases h
          | succ n ih50 =>
            intro z50 ρ50 hz50 hK50 H5 locs5 hP5 hD5 hS5 ls4 hl4
            obtain ⟨t50, hm, hz50⟩ := bn hz50
            unfold m_X6_drift_L50 at hm
            refine lv_iload hx hb dX6_drift_50 (lv_at hl4 3 rfl) ?_
            refine lv_iload_n hx hb dX6_drift_52 rfl (lv_at hl4 1 rfl) ?_
            refine lv_icmp_ge (tgt := 89) hx hb dX6_drift_53 (by decide) (fun c53 => ?_) (fun c53 => ?_)
            · replace hm := tp hm c53
              cases hm
              cases hz50
              exact hE50 (z50.1, z50.2) hK50 _ _ hP5 hD5 hS5 _ (lv_sub hl4 [0, 2] rfl)
            · replace hm := tn hm c53
              refine lv_aload_n hx hb dX6_drift_56 rfl (lv_at hl4 0 rfl) ?_
              refine lv_aload_n hx hb dX6_drift_57 rfl (lv_at hl4 0 rfl) ?_
              refine va_get (D := D) (ci := 6) (v := .int (z50.2 0 1)) (C := RX6) (T := TX6) (N := 40) hx hb hW iX6 hown hK hP5 0 rfl rfl 1 (by decide) (hW _ k_868) (fun _ h => h) rfl dX6_drift_58 ?_
              obtain ⟨y61, hy61, hm⟩ := bn hm
              refine cVWi (As := [.int (z50.2 0 1)]) (rest := []) (Wn := fun (uu : SV) => wX6 q a uu) X hP5 hD5 hS5 (fun _ h => Or.inr h) hl4.1 (c_X6_draws l D q H5.size a z50.2 (z50.2 0 1) y61 hy61) [0, 1, 2, 3, 4, 5, 6, 7, 8, 9, 10, 11, 12, 13, 14, 15, 16, 17] [] [0, 1, 2, 3, 4, 5, 6, 7, 8, 9, 10, 11, 12, 13, 14, 15, 16, 17] rfl (Wr := []) rfl (by decide) (by decide) (by decide) (by decide) (fun _ => rfl) 0 rfl rfl rfl k_1295 mX6_draws ⟨rfl, rfl⟩ ⟨Nat.le_of_ble_eq_true rfl, Nat.le_of_ble_eq_true rfl⟩ rfl rfl (Nat.le_of_ble_eq_true rfl) dX6_drift_61 ⟨Nat.zero_le _, Nat.zero_le _⟩ (fun H8 locs8 hP hD hS8 => ?_)
              have hP8 : va_P D cls (wX6 q a y61.2) H8 := hP
              have hD8 : va_D (va_A (wX6 q a v) s.heap.size) (wX6 q a y61.2) := hD
              clear hP hD hP5 hD5 hS5
              refine lv_istore (lv' := [(5, .int y61.1), (0, .ref (a 99)), (2, .int x2), (3, .int x3), (4, .int z50.1)]) hx hb dX6_drift_64 hl4 (by decide) rfl (fun ls9 hl9 => ?_)
              clear hl4
              refine lv_aload_n hx hb dX6_drift_66 rfl (lv_at hl9 1 rfl) ?_
              refine lv_sipush (v := (252 : Int32)) hx hb dX6_drift_67 (by decide) ?_
              refine lv_iload hx hb dX6_drift_70 (lv_at hl9 0 rfl) ?_
              refine lv_aload_n hx hb dX6_drift_72 rfl (lv_at hl9 1 rfl) ?_
              refine lv_aload_n hx hb dX6_drift_73 rfl (lv_at hl9 1 rfl) ?_
              refine va_get (D := D) (ci := 6) (v := .int (y61.2 0 2)) (C := RX6) (T := TX6) (N := 40) hx hb hW iX6 hown hK hP8 0 rfl rfl 2 (by decide) (hW _ k_869) (fun _ h => h) rfl dX6_drift_74 ?_
              obtain ⟨y77, hy77, hm⟩ := bn hm
              refine cVWi (As := [.int (y61.2 0 2)]) (rest := [.int y61.1, .int (252 : Int32), .ref (a 99)]) (Wn := fun (uu : SV) => wX6 q a uu) X hP8 hD8 hS8 (fun _ h => Or.inr h) hl9.1 (c_X6_draws l D q H8.size a y61.2 (y61.2 0 2) y77 hy77) [0, 1, 2, 3, 4, 5, 6, 7, 8, 9, 10, 11, 12, 13, 14, 15, 16, 17] [] [0, 1, 2, 3, 4, 5, 6, 7, 8, 9, 10, 11, 12, 13, 14, 15, 16, 17] rfl (Wr := []) rfl (by decide) (by decide) (by decide) (by decide) (fun _ => rfl) 0 rfl rfl rfl k_1295 mX6_draws ⟨rfl, rfl⟩ ⟨Nat.le_of_ble_eq_true rfl, Nat.le_of_ble_eq_true rfl⟩ rfl rfl (Nat.le_of_ble_eq_true rfl) dX6_drift_77 ⟨Nat.zero_le _, Nat.zero_le _⟩ (fun H10 locs10 hP hD hS10 => ?_)
              have hP10 : va_P D cls (wX6 q a y77.2) H10 := hP
              have hD10 : va_D (va_A (wX6 q a v) s.heap.size) (wX6 q a y77.2) := hD
              clear hP hD hP8 hD8 hS8
              obtain ⟨y80, hy80, hm⟩ := bn hm
              refine cVWv (As := [.int (252 : Int32), .int y61.1, .int y77.1]) (rest := []) (Wn := fun (uu : SV) => wX6 q a uu) X hP10 hD10 hS10 (fun _ h => Or.inr h) hl9.1 (c_X6_paintsOn l D q H10.size a y77.2 (252 : Int32) y61.1 y77.1 y80 hy80) [0, 1, 2, 3, 4, 5, 6, 7, 8, 9, 10, 11, 12, 13, 14, 15, 16, 17] [] [0, 1, 2, 3, 4, 5, 6, 7, 8, 9, 10, 11, 12, 13, 14, 15, 16, 17] rfl (Wr := []) rfl (by decide) (by decide) (by decide) (by decide) (fun _ => rfl) 0 rfl rfl rfl k_1140 mX6_paintsOn ⟨rfl, rfl⟩ ⟨Nat.le_of_ble_eq_true rfl, Nat.le_of_ble_eq_true rfl⟩ rfl rfl (Nat.le_of_ble_eq_true rfl) dX6_drift_80 ⟨Nat.zero_le _, Nat.zero_le _⟩ (fun H11 locs11 hP hD hS11 => ?_)
              have hP11 : va_P D cls (wX6 q a y80) H11 := hP
              have hD11 : va_D (va_A (wX6 q a v) s.heap.size) (wX6 q a y80) := hD
              clear hP hD hP10 hD10 hS10
              refine lv_iinc (v := (z50.1 + (1 : Int32))) (lv' := [(4, .int (z50.1 + (1 : Int32))), (5, .int y61.1), (0, .ref (a 99)), (2, .int x2), (3, .int x3)]) hx hb dX6_drift_83 hl9 (k := 4) rfl rfl (by decide) rfl (fun ls12 hl12 => ?_)
              clear hl9
              refine lv_goto (tgt := 50) hx hb dX6_drift_86 (by decide) ?_
              cases hm
              exact ih50 ((z50.1 + (1 : Int32)), y80) ρ50 hz50 hK50 _ _ hP11 hD11 hS11 _ (lv_sub hl12 [2, 3, 4, 0] rfl)
        exact hL50 n50 ((0 : Int32), v2_) r50 hn50 hm _ _ hP2 hD2 hS2 _ (lv_sub hl3 [1, 3, 4, 0] rfl)
      · replace hm := tp hm c28
        refine lv_bipush (v := (-2 : Int32)) hx hb dX6_drift_31 (by decide) ?_
        exact eWi (Wf := fun (uu : SV) => wX6 q a uu) (u := v) X hr hlocks hP0 hD0 hS0 hm dX6_drift_33
    · replace hm := tp hm c19
      refine lv_iconst (v := (-1 : Int32)) hx hb dX6_drift_22 (by decide) ?_
      exact eWi (Wf := fun (uu : SV) => wX6 q a uu) (u := v) X hr hlocks hP0 hD0 hS0 hm dX6_drift_23
noncomputable def m_X6_keep (v : SV) (x1 : Int32) : Option (Int32 × SV) :=
  (m_X6_in (x1.toInt64) (0 : Int64) (1 : Int64)).bind (fun y4 => (if y4 = 0 then some ((-1 : Int32), v) else (m_X6_copies v (0 : Int32) ((63 : Int32) * (x1 + (1 : Int32)))).bind (fun y20 => ck (inB x1 2) ((if (y20 35 ((x1).toNatClampNeg)) = 0 then ck (inB x1 2) (lett (up2 y20 35 ((x1).toNatClampNeg) (vp_nar .boolean (1 : Int32))) (fun v5_ => some ((0 : Int32), v5_))) else ck (inB x1 2) (lett (up2 y20 35 ((x1).toNatClampNeg) (vp_nar .boolean (1 : Int32))) (fun v8_ => some ((1 : Int32), v8_))))))))
set_option maxHeartbeats 4000000 in
set_option maxRecDepth 100000 in
theorem c_X6_keep (l : Launch) (D : va_G) (q : Nat → ClassId) (sz : Nat) (a : Nat → Nat) (v : SV) (x1 : Int32) (res : Int32 × SV) (hm : m_X6_keep v x1 = some res) : Met l yX6_keep (mw yX6_keep cX6_keep 3 (some .int)) ({ frames := 1, cells := 0, slots := 0, locals := 25 } : Room) (pcW D q (wX6 q a v) sz [.ref (a 99), .int x1]) (va_Qi (fun r w => r = res.1 ∧ w = res.2) (bW D q (wX6 q a v) sz (fun (uu : SV) => wX6 q a uu)) (va_A (wX6 q a v) sz)) 0 0 (va_A (wX6 q a v) sz) := by
  refine Met.ofW (cc := cX6_keep) (maxL := 3) (ret := (some .int)) (by decide) rfl ?_
  intro p e s m args below meth c s₁ B hml hv
  obtain ⟨rfl, hsz, hP0, hK, hD0⟩ := hv
  have hx := B.exec
  have hb := B.bytes
  have hr := B.returns
  have hW := mw_ws (atoms_spec (ws := mw yX6_keep cX6_keep 3 (some .int)) B.pre)
  have hown : s.vm.findClass RX6 = some m.cls := findClass_of_methodNamed B.named
  have hlocks := B.notSynchronized
  have X : Cx p s m [.ref (a 99), .int x1].toArray c cX6_keep 3 RX6 D q := ⟨hx, hb, hml, hown, hW, hK⟩
  subst hsz
  replace hD0 := hD0.self (sz := s.heap.size)
  have hS0 : va_S (va_A (wX6 q a v) s.heap.size) s.heap s.heap [] := va_S.rf
  have hl0 := lv_entry ([.ref (a 99), .int x1]) (n := 3) (Nat.le_of_ble_eq_true rfl)
  rw [lg_entry_eq]
  generalize (lg_sl ([.ref (a 99), .int x1]) ++ List.replicate (3 - (lg_sl ([.ref (a 99), .int x1])).length) Slot.unset).toArray = ls0 at hl0 ⊢
  have hl0 : lv_has ls0 3 [(0, .ref (a 99)), (1, .int x1)] := hl0
  unfold m_X6_keep at hm
  refine lv_iload_n hx hb dX6_keep_0 rfl (lv_at hl0 1 rfl) ?_
  refine lv_i2l hx hb dX6_keep_1 rfl ?_
  refine lv_lconst (v := (0 : Int64)) hx hb dX6_keep_2 (by decide) ?_
  refine lv_lconst (v := (1 : Int64)) hx hb dX6_keep_3 (by decide) ?_
  obtain ⟨y4, hy4, hm⟩ := bn hm
  refine cSRi (As := [.long (x1.toInt64), .long (0 : Int64), .long (1 : Int64)]) (rest := []) X hP0 hl0.1 (c_X6_in l D q (x1.toInt64) (0 : Int64) (1 : Int64) y4 hy4) [] rfl k_993 mX6_in ⟨rfl, rfl⟩ ⟨Nat.le_of_ble_eq_true rfl, Nat.le_of_ble_eq_true rfl⟩ rfl rfl (Nat.le_of_ble_eq_true rfl) dX6_keep_4 ⟨Nat.zero_le _, Nat.zero_le _⟩ ?_
  refine lv_if_ne (tgt := 12) hx hb dX6_keep_7 (by decide) (fun c7 => ?_) (fun c7 => ?_)
  · replace hm := tn hm c7
    refine lv_aload_n hx hb dX6_keep_12 rfl (lv_at hl0 0 rfl) ?_
    refine lv_iconst (v := (0 : Int32)) hx hb dX6_keep_13 (by decide) ?_
    refine lv_bipush (v := (63 : Int32)) hx hb dX6_keep_14 (by decide) ?_
    refine lv_iload_n hx hb dX6_keep_16 rfl (lv_at hl0 1 rfl) ?_
    refine lv_iconst (v := (1 : Int32)) hx hb dX6_keep_17 (by decide) ?_
    refine lv_iadd hx hb dX6_keep_18 ?_
    refine lv_imul hx hb dX6_keep_19 ?_
    obtain ⟨y20, hy20, hm⟩ := bn hm
    refine cVWv (As := [.int (0 : Int32), .int ((63 : Int32) * (x1 + (1 : Int32)))]) (rest := []) (Wn := fun (uu : SV) => wX6 q a uu) X hP0 hD0 hS0 (fun _ h => Or.inr h) hl0.1 (c_X6_copies l D q s.heap.size a v (0 : Int32) ((63 : Int32) * (x1 + (1 : Int32))) y20 hy20) [0, 1, 2, 3, 4, 5, 6, 7, 8, 9, 10, 11, 12, 13, 14, 15, 16, 17] [] [0, 1, 2, 3, 4, 5, 6, 7, 8, 9, 10, 11, 12, 13, 14, 15, 16, 17] rfl (Wr := []) rfl (by decide) (by decide) (by decide) (by decide) (fun _ => rfl) 0 rfl rfl rfl k_1183 mX6_copies ⟨rfl, rfl⟩ ⟨Nat.le_of_ble_eq_true rfl, Nat.le_of_ble_eq_true rfl⟩ rfl rfl (Nat.le_of_ble_eq_true rfl) dX6_keep_20 ⟨Nat.zero_le _, Nat.zero_le _⟩ (fun H1 locs1 hP hD hS1 => ?_)
    have hP1 : va_P D cls (wX6 q a y20) H1 := hP
    have hD1 : va_D (va_A (wX6 q a v) s.heap.size) (wX6 q a y20) := hD
    clear hP hD hP0 hD0 hS0
    refine lv_aload_n hx hb dX6_keep_23 rfl (lv_at hl0 0 rfl) ?_
    refine va_get (D := D) (ci := 6) (v := .ref (a 35)) (C := RX6) (T := TX6) (N := 40) hx hb hW iX6 hown hK hP1 0 rfl rfl 35 (by decide) (hW _ k_902) (fun _ h => h) rfl dX6_keep_24 ?_
    refine lv_iload_n hx hb dX6_keep_27 rfl (lv_at hl0 1 rfl) ?_
    obtain ⟨h2, hm⟩ := ckd hm
    refine va_zald (f := (y20 35)) hx hb hK hP1 14 2 rfl rfl (inB_vp h2) dX6_keep_28 ?_
    refine lv_if_eq (tgt := 36) hx hb dX6_keep_29 (by decide) (fun c29 => ?_) (fun c29 => ?_)
    · replace hm := tp hm c29
      refine lv_iconst (v := (0 : Int32)) hx hb dX6_keep_36 (by decide) ?_
      refine lv_istore_n (lv' := [(2, .int (0 : Int32)), (0, .ref (a 99)), (1, .int x1)]) hx hb dX6_keep_37 rfl hl0 (by decide) rfl (fun ls3 hl3 => ?_)
      clear hl0
      refine lv_aload_n hx hb dX6_keep_38 rfl (lv_at hl3 1 rfl) ?_
      refine va_get (D := D) (ci := 6) (v := .ref (a 35)) (C := RX6) (T := TX6) (N := 40) hx hb hW iX6 hown hK hP1 0 rfl rfl 35 (by decide) (hW _ k_902) (fun _ h => h) rfl dX6_keep_39 ?_
      refine lv_iload_n hx hb dX6_keep_42 rfl (lv_at hl3 2 rfl) ?_
      refine lv_iconst (v := (1 : Int32)) hx hb dX6_keep_43 (by decide) ?_
      obtain ⟨h4, hm⟩ := ckd hm
      refine va_zast (f := (y20 35)) hx hb hK hP1 hD1 hS1 14 2 rfl rfl (inB_vp h4) dX6_keep_44 (fun H5 locs5 hP hD hS5 => ?_)
      obtain ⟨v5_, e5, hm⟩ := ltd hm
      have hP5 : va_P D cls (wX6 q a v5_) H5 := by rw [e5]; exact hP
      have hD5 : va_D (va_A (wX6 q a v) s.heap.size) (wX6 q a v5_) := by rw [e5]; exact hD
      clear hP hD hP1 hD1 hS1
      refine lv_iload_n hx hb dX6_keep_45 rfl (lv_at hl3 0 rfl) ?_
      exact eWi (Wf := fun (uu : SV) => wX6 q a uu) (u := v5_) X hr hlocks hP5 hD5 hS5 hm dX6_keep_46
    · replace hm := tn hm c29
      refine lv_iconst (v := (1 : Int32)) hx hb dX6_keep_32 (by decide) ?_
      refine lv_goto (tgt := 37) hx hb dX6_keep_33 (by decide) ?_
      refine lv_istore_n (lv' := [(2, .int (1 : Int32)), (0, .ref (a 99)), (1, .int x1)]) hx hb dX6_keep_37 rfl hl0 (by decide) rfl (fun ls6 hl6 => ?_)
      clear hl0
      refine lv_aload_n hx hb dX6_keep_38 rfl (lv_at hl6 1 rfl) ?_
      refine va_get (D := D) (ci := 6) (v := .ref (a 35)) (C := RX6) (T := TX6) (N := 40) hx hb hW iX6 hown hK hP1 0 rfl rfl 35 (by decide) (hW _ k_902) (fun _ h => h) rfl dX6_keep_39 ?_
      refine lv_iload_n hx hb dX6_keep_42 rfl (lv_at hl6 2 rfl) ?_
      refine lv_iconst (v := (1 : Int32)) hx hb dX6_keep_43 (by decide) ?_
      obtain ⟨h7, hm⟩ := ckd hm
      refine va_zast (f := (y20 35)) hx hb hK hP1 hD1 hS1 14 2 rfl rfl (inB_vp h7) dX6_keep_44 (fun H8 locs8 hP hD hS8 => ?_)
      obtain ⟨v8_, e8, hm⟩ := ltd hm
      have hP8 : va_P D cls (wX6 q a v8_) H8 := by rw [e8]; exact hP
      have hD8 : va_D (va_A (wX6 q a v) s.heap.size) (wX6 q a v8_) := by rw [e8]; exact hD
      clear hP hD hP1 hD1 hS1
      refine lv_iload_n hx hb dX6_keep_45 rfl (lv_at hl6 0 rfl) ?_
      exact eWi (Wf := fun (uu : SV) => wX6 q a uu) (u := v8_) X hr hlocks hP8 hD8 hS8 hm dX6_keep_46
  · replace hm := tp hm c7
    refine lv_iconst (v := (-1 : Int32)) hx hb dX6_keep_10 (by decide) ?_
    exact eWi (Wf := fun (uu : SV) => wX6 q a uu) (u := v) X hr hlocks hP0 hD0 hS0 hm dX6_keep_11
noncomputable def m_X6_back (v : SV) (x1 : Int32) : Option (Int32 × SV) :=
  (m_X6_in (x1.toInt64) (0 : Int64) (1 : Int64)).bind (fun y4 => (if y4 = 0 then some ((-1 : Int32), v) else ck (inB x1 2) ((if (v 35 ((x1).toNatClampNeg)) = 0 then some ((-2 : Int32), v) else (m_X6_copies v ((63 : Int32) * (x1 + (1 : Int32))) (0 : Int32)).bind (fun y32 => some ((y32 50 (Int32.toNatClampNeg (61 : Int32))), y32))))))
set_option maxHeartbeats 4000000 in
set_option maxRecDepth 100000 in
theorem c_X6_back (l : Launch) (D : va_G) (q : Nat → ClassId) (sz : Nat) (a : Nat → Nat) (v : SV) (x1 : Int32) (res : Int32 × SV) (hm : m_X6_back v x1 = some res) : Met l yX6_back (mw yX6_back cX6_back 2 (some .int)) ({ frames := 1, cells := 0, slots := 0, locals := 25 } : Room) (pcW D q (wX6 q a v) sz [.ref (a 99), .int x1]) (va_Qi (fun r w => r = res.1 ∧ w = res.2) (bW D q (wX6 q a v) sz (fun (uu : SV) => wX6 q a uu)) (va_A (wX6 q a v) sz)) 0 0 (va_A (wX6 q a v) sz) := by
  refine Met.ofW (cc := cX6_back) (maxL := 2) (ret := (some .int)) (by decide) rfl ?_
  intro p e s m args below meth c s₁ B hml hv
  obtain ⟨rfl, hsz, hP0, hK, hD0⟩ := hv
  have hx := B.exec
  have hb := B.bytes
  have hr := B.returns
  have hW := mw_ws (atoms_spec (ws := mw yX6_back cX6_back 2 (some .int)) B.pre)
  have hown : s.vm.findClass RX6 = some m.cls := findClass_of_methodNamed B.named
  have hlocks := B.notSynchronized
  have X : Cx p s m [.ref (a 99), .int x1].toArray c cX6_back 2 RX6 D q := ⟨hx, hb, hml, hown, hW, hK⟩
  subst hsz
  replace hD0 := hD0.self (sz := s.heap.size)
  have hS0 : va_S (va_A (wX6 q a v) s.heap.size) s.heap s.heap [] := va_S.rf
  have hl0 := lv_entry ([.ref (a 99), .int x1]) (n := 2) (Nat.le_of_ble_eq_true rfl)
  rw [lg_entry_eq]
  generalize (lg_sl ([.ref (a 99), .int x1]) ++ List.replicate (2 - (lg_sl ([.ref (a 99), .int x1])).length) Slot.unset).toArray = ls0 at hl0 ⊢
  have hl0 : lv_has ls0 2 [(0, .ref (a 99)), (1, .int x1)] := hl0
  unfold m_X6_back at hm
  refine lv_iload_n hx hb dX6_back_0 rfl (lv_at hl0 1 rfl) ?_
  refine lv_i2l hx hb dX6_back_1 rfl ?_
  refine lv_lconst (v := (0 : Int64)) hx hb dX6_back_2 (by decide) ?_
  refine lv_lconst (v := (1 : Int64)) hx hb dX6_back_3 (by decide) ?_
  obtain ⟨y4, hy4, hm⟩ := bn hm
  refine cSRi (As := [.long (x1.toInt64), .long (0 : Int64), .long (1 : Int64)]) (rest := []) X hP0 hl0.1 (c_X6_in l D q (x1.toInt64) (0 : Int64) (1 : Int64) y4 hy4) [] rfl k_993 mX6_in ⟨rfl, rfl⟩ ⟨Nat.le_of_ble_eq_true rfl, Nat.le_of_ble_eq_true rfl⟩ rfl rfl (Nat.le_of_ble_eq_true rfl) dX6_back_4 ⟨Nat.zero_le _, Nat.zero_le _⟩ ?_
  refine lv_if_ne (tgt := 12) hx hb dX6_back_7 (by decide) (fun c7 => ?_) (fun c7 => ?_)
  · replace hm := tn hm c7
    refine lv_aload_n hx hb dX6_back_12 rfl (lv_at hl0 0 rfl) ?_
    refine va_get (D := D) (ci := 6) (v := .ref (a 35)) (C := RX6) (T := TX6) (N := 40) hx hb hW iX6 hown hK hP0 0 rfl rfl 35 (by decide) (hW _ k_902) (fun _ h => h) rfl dX6_back_13 ?_
    refine lv_iload_n hx hb dX6_back_16 rfl (lv_at hl0 1 rfl) ?_
    obtain ⟨h1, hm⟩ := ckd hm
    refine va_zald (f := (v 35)) hx hb hK hP0 14 2 rfl rfl (inB_vp h1) dX6_back_17 ?_
    refine lv_if_ne (tgt := 24) hx hb dX6_back_18 (by decide) (fun c18 => ?_) (fun c18 => ?_)
    · replace hm := tn hm c18
      refine lv_aload_n hx hb dX6_back_24 rfl (lv_at hl0 0 rfl) ?_
      refine lv_bipush (v := (63 : Int32)) hx hb dX6_back_25 (by decide) ?_
      refine lv_iload_n hx hb dX6_back_27 rfl (lv_at hl0 1 rfl) ?_
      refine lv_iconst (v := (1 : Int32)) hx hb dX6_back_28 (by decide) ?_
      refine lv_iadd hx hb dX6_back_29 ?_
      refine lv_imul hx hb dX6_back_30 ?_
      refine lv_iconst (v := (0 : Int32)) hx hb dX6_back_31 (by decide) ?_
      obtain ⟨y32, hy32, hm⟩ := bn hm
      refine cVWv (As := [.int ((63 : Int32) * (x1 + (1 : Int32))), .int (0 : Int32)]) (rest := []) (Wn := fun (uu : SV) => wX6 q a uu) X hP0 hD0 hS0 (fun _ h => Or.inr h) hl0.1 (c_X6_copies l D q s.heap.size a v ((63 : Int32) * (x1 + (1 : Int32))) (0 : Int32) y32 hy32) [0, 1, 2, 3, 4, 5, 6, 7, 8, 9, 10, 11, 12, 13, 14, 15, 16, 17] [] [0, 1, 2, 3, 4, 5, 6, 7, 8, 9, 10, 11, 12, 13, 14, 15, 16, 17] rfl (Wr := []) rfl (by decide) (by decide) (by decide) (by decide) (fun _ => rfl) 0 rfl rfl rfl k_1183 mX6_copies ⟨rfl, rfl⟩ ⟨Nat.le_of_ble_eq_true rfl, Nat.le_of_ble_eq_true rfl⟩ rfl rfl (Nat.le_of_ble_eq_true rfl) dX6_back_32 ⟨Nat.zero_le _, Nat.zero_le _⟩ (fun H2 locs2 hP hD hS2 => ?_)
      have hP2 : va_P D cls (wX6 q a y32) H2 := hP
      have hD2 : va_D (va_A (wX6 q a v) s.heap.size) (wX6 q a y32) := hD
      clear hP hD hP0 hD0 hS0
      refine lv_aload_n hx hb dX6_back_35 rfl (lv_at hl0 0 rfl) ?_
      refine va_get (D := D) (ci := 6) (v := .ref (a 0)) (C := RX6) (T := TX6) (N := 40) hx hb hW iX6 hown hK hP2 0 rfl rfl 0 (by decide) (hW _ k_867) (fun _ h => h) rfl dX6_back_36 ?_
      refine lv_bipush (v := (61 : Int32)) hx hb dX6_back_39 (by decide) ?_
      refine va_iald (f := (y32 50)) hx hb hK hP2 1 0 rfl rfl (inB_vp (by decide)) dX6_back_41 ?_
      exact eWi (Wf := fun (uu : SV) => wX6 q a uu) (u := y32) X hr hlocks hP2 hD2 hS2 hm dX6_back_42
    · replace hm := tp hm c18
      refine lv_bipush (v := (-2 : Int32)) hx hb dX6_back_21 (by decide) ?_
      exact eWi (Wf := fun (uu : SV) => wX6 q a uu) (u := v) X hr hlocks hP0 hD0 hS0 hm dX6_back_23
  · replace hm := tp hm c7
    refine lv_iconst (v := (-1 : Int32)) hx hb dX6_back_10 (by decide) ?_
    exact eWi (Wf := fun (uu : SV) => wX6 q a uu) (u := v) X hr hlocks hP0 hD0 hS0 hm dX6_back_11
noncomputable def m_X6_sheet_K56 (z56 : Int32 × SV) : Option (Int32 × SV) :=
  some ((1 : Int32), z56.2)
noncomputable def m_X6_sheet_L56 (x1 : Int32) (z56 : Int32 × SV) : Option ((Int32 × SV) ⊕ (Int32 × SV)) :=
  (if (40 : Int32) ≤ z56.1 then some (.inr (z56.1, z56.2)) else ck (inB (((40 : Int32) * x1) + z56.1) 160) (lett (up2 z56.2 38 (((((40 : Int32) * x1) + z56.1)).toNatClampNeg) (0 : Int32)) (fun v11_ => some (.inl ((z56.1 + (1 : Int32)), v11_)))))
noncomputable def m_X6_sheet (v : SV) (x1 : Int32) (x2 : Int32) (x3 : Int32) : Option (Int32 × SV) :=
  (m_X6_in (x1.toInt64) (0 : Int64) (3 : Int64)).bind (fun y6 => (if y6 = 0 then some ((-1 : Int32), v) else (m_X6_in (x2.toInt64) (0 : Int64) (2 : Int64)).bind (fun y18 => (if y18 = 0 then some ((-1 : Int32), v) else (if x3 ≤ (40 : Int32) then (if 0 ≤ x3 then ck (inB x1 4) (lett (up2 v 36 ((x1).toNatClampNeg) x2) (fun v2_ => ck (inB x1 4) (lett (up2 v2_ 37 ((x1).toNatClampNeg) x3) (fun v4_ => (lpC (m_X6_sheet_L56 x1) ((0 : Int32), v4_)).bind (m_X6_sheet_K56))))) else some ((-14 : Int32), v)) else some ((-1 : Int32), v))))))
set_option maxHeartbeats 4000000 in
set_option maxRecDepth 100000 in
theorem c_X6_sheet (l : Launch) (D : va_G) (q : Nat → ClassId) (sz : Nat) (a : Nat → Nat) (v : SV) (x1 : Int32) (x2 : Int32) (x3 : Int32) (res : Int32 × SV) (hm : m_X6_sheet v x1 x2 x3 = some res) : Met l yX6_sheet (mw yX6_sheet cX6_sheet 5 (some .int)) ({ frames := 1, cells := 0, slots := 0, locals := 25 } : Room) (pcW D q (wX6 q a v) sz [.ref (a 99), .int x1, .int x2, .int x3]) (va_Qi (fun r w => r = res.1 ∧ w = res.2) (bW D q (wX6 q a v) sz (fun (uu : SV) => wX6 q a uu)) (va_A (wX6 q a v) sz)) 0 0 (va_A (wX6 q a v) sz) := by
  refine Met.ofW (cc := cX6_sheet) (maxL := 5) (ret := (some .int)) (by decide) rfl ?_
  intro p e s m args below meth c s₁ B hml hv
  obtain ⟨rfl, hsz, hP0, hK, hD0⟩ := hv
  have hx := B.exec
  have hb := B.bytes
  have hr := B.returns
  have hW := mw_ws (atoms_spec (ws := mw yX6_sheet cX6_sheet 5 (some .int)) B.pre)
  have hown : s.vm.findClass RX6 = some m.cls := findClass_of_methodNamed B.named
  have hlocks := B.notSynchronized
  have X : Cx p s m [.ref (a 99), .int x1, .int x2, .int x3].toArray c cX6_sheet 5 RX6 D q := ⟨hx, hb, hml, hown, hW, hK⟩
  subst hsz
  replace hD0 := hD0.self (sz := s.heap.size)
  have hS0 : va_S (va_A (wX6 q a v) s.heap.size) s.heap s.heap [] := va_S.rf
  have hl0 := lv_entry ([.ref (a 99), .int x1, .int x2, .int x3]) (n := 5) (Nat.le_of_ble_eq_true rfl)
  rw [lg_entry_eq]
  generalize (lg_sl ([.ref (a 99), .int x1, .int x2, .int x3]) ++ List.replicate (5 - (lg_sl ([.ref (a 99), .int x1, .int x2, .int x3])).length) Slot.unset).toArray = ls0 at hl0 ⊢
  have hl0 : lv_has ls0 5 [(0, .ref (a 99)), (1, .int x1), (2, .int x2), (3, .int x3)] := hl0
  unfold m_X6_sheet at hm
  refine lv_iload_n hx hb dX6_sheet_0 rfl (lv_at hl0 1 rfl) ?_
  refine lv_i2l hx hb dX6_sheet_1 rfl ?_
  refine lv_lconst (v := (0 : Int64)) hx hb dX6_sheet_2 (by decide) ?_
  refine lv_ldc2 (v := (3 : Int64)) hx hb hown (hW _ k_1152) dX6_sheet_3 ?_
  obtain ⟨y6, hy6, hm⟩ := bn hm
  refine cSRi (As := [.long (x1.toInt64), .long (0 : Int64), .long (3 : Int64)]) (rest := []) X hP0 hl0.1 (c_X6_in l D q (x1.toInt64) (0 : Int64) (3 : Int64) y6 hy6) [] rfl k_993 mX6_in ⟨rfl, rfl⟩ ⟨Nat.le_of_ble_eq_true rfl, Nat.le_of_ble_eq_true rfl⟩ rfl rfl (Nat.le_of_ble_eq_true rfl) dX6_sheet_6 ⟨Nat.zero_le _, Nat.zero_le _⟩ ?_
  refine lv_if_eq (tgt := 30) hx hb dX6_sheet_9 (by decide) (fun c9 => ?_) (fun c9 => ?_)
  · replace hm := tp hm c9
    refine lv_iconst (v := (-1 : Int32)) hx hb dX6_sheet_30 (by decide) ?_
    exact eWi (Wf := fun (uu : SV) => wX6 q a uu) (u := v) X hr hlocks hP0 hD0 hS0 hm dX6_sheet_31
  · replace hm := tn hm c9
    refine lv_iload_n hx hb dX6_sheet_12 rfl (lv_at hl0 2 rfl) ?_
    refine lv_i2l hx hb dX6_sheet_13 rfl ?_
    refine lv_lconst (v := (0 : Int64)) hx hb dX6_sheet_14 (by decide) ?_
    refine lv_ldc2 (v := (2 : Int64)) hx hb hown (hW _ k_1114) dX6_sheet_15 ?_
    obtain ⟨y18, hy18, hm⟩ := bn hm
    refine cSRi (As := [.long (x2.toInt64), .long (0 : Int64), .long (2 : Int64)]) (rest := []) X hP0 hl0.1 (c_X6_in l D q (x2.toInt64) (0 : Int64) (2 : Int64) y18 hy18) [] rfl k_993 mX6_in ⟨rfl, rfl⟩ ⟨Nat.le_of_ble_eq_true rfl, Nat.le_of_ble_eq_true rfl⟩ rfl rfl (Nat.le_of_ble_eq_true rfl) dX6_sheet_18 ⟨Nat.zero_le _, Nat.zero_le _⟩ ?_
    refine lv_if_eq (tgt := 30) hx hb dX6_sheet_21 (by decide) (fun c21 => ?_) (fun c21 => ?_)
    · replace hm := tp hm c21
      refine lv_iconst (v := (-1 : Int32)) hx hb dX6_sheet_30 (by decide) ?_
      exact eWi (Wf := fun (uu : SV) => wX6 q a uu) (u := v) X hr hlocks hP0 hD0 hS0 hm dX6_sheet_31
    · replace hm := tn hm c21
      refine lv_iload_n hx hb dX6_sheet_24 rfl (lv_at hl0 3 rfl) ?_
      refine lv_bipush (v := (40 : Int32)) hx hb dX6_sheet_25 (by decide) ?_
      refine lv_icmp_le (tgt := 32) hx hb dX6_sheet_27 (by decide) (fun c27 => ?_) (fun c27 => ?_)
      · replace hm := tp hm c27
        refine lv_iload_n hx hb dX6_sheet_32 rfl (lv_at hl0 3 rfl) ?_
        refine lv_if_ge (tgt := 39) hx hb dX6_sheet_33 (by decide) (fun c33 => ?_) (fun c33 => ?_)
        · replace hm := tp hm c33
          refine lv_aload_n hx hb dX6_sheet_39 rfl (lv_at hl0 0 rfl) ?_
          refine va_get (D := D) (ci := 6) (v := .ref (a 36)) (C := RX6) (T := TX6) (N := 40) hx hb hW iX6 hown hK hP0 0 rfl rfl 36 (by decide) (hW _ k_903) (fun _ h => h) rfl dX6_sheet_40 ?_
          refine lv_iload_n hx hb dX6_sheet_43 rfl (lv_at hl0 1 rfl) ?_
          refine lv_iload_n hx hb dX6_sheet_44 rfl (lv_at hl0 2 rfl) ?_
          obtain ⟨h1, hm⟩ := ckd hm
          refine va_iast (f := (v 36)) hx hb hK hP0 hD0 hS0 15 0 rfl rfl (inB_vp h1) dX6_sheet_45 (fun H2 locs2 hP hD hS2 => ?_)
          obtain ⟨v2_, e2, hm⟩ := ltd hm
          have hP2 : va_P D cls (wX6 q a v2_) H2 := by rw [e2]; exact hP
          have hD2 : va_D (va_A (wX6 q a v) s.heap.size) (wX6 q a v2_) := by rw [e2]; exact hD
          clear hP hD hP0 hD0 hS0
          refine lv_aload_n hx hb dX6_sheet_46 rfl (lv_at hl0 0 rfl) ?_
          refine va_get (D := D) (ci := 6) (v := .ref (a 37)) (C := RX6) (T := TX6) (N := 40) hx hb hW iX6 hown hK hP2 0 rfl rfl 37 (by decide) (hW _ k_904) (fun _ h => h) rfl dX6_sheet_47 ?_
          refine lv_iload_n hx hb dX6_sheet_50 rfl (lv_at hl0 1 rfl) ?_
          refine lv_iload_n hx hb dX6_sheet_51 rfl (lv_at hl0 3 rfl) ?_
          obtain ⟨h3, hm⟩ := ckd hm
          refine va_iast (f := (v2_ 37)) hx hb hK hP2 hD2 hS2 16 0 rfl rfl (inB_vp h3) dX6_sheet_52 (fun H4 locs4 hP hD hS4 => ?_)
          obtain ⟨v4_, e4, hm⟩ := ltd hm
          have hP4 : va_P D cls (wX6 q a v4_) H4 := by rw [e4]; exact hP
          have hD4 : va_D (va_A (wX6 q a v) s.heap.size) (wX6 q a v4_) := by rw [e4]; exact hD
          clear hP hD hP2 hD2 hS2
          refine lv_iconst (v := (0 : Int32)) hx hb dX6_sheet_53 (by decide) ?_
          refine lv_istore (lv' := [(4, .int (0 : Int32)), (0, .ref (a 99)), (1, .int x1), (2, .int x2), (3, .int x3)]) hx hb dX6_sheet_54 hl0 (by decide) rfl (fun ls5 hl5 => ?_)
          clear hl0
          obtain ⟨r56, hr56, hm⟩ := bn hm
          obtain ⟨n56, hn56⟩ := lpC_ex hr56
          have hE56 : ∀ z56 : Int32 × SV, m_X6_sheet_K56 z56 = some res → ∀ (H : Heap) (locs : List Loc), va_P D cls (wX6 q a z56.2) H → va_D (va_A (wX6 q a v) s.heap.size) (wX6 q a z56.2) → va_S (va_A (wX6 q a v) s.heap.size) s.heap H locs → ∀ ls : Array Slot, lv_has ls 5 [] → W p l e ((headSpec (mw yX6_sheet cX6_sheet 5 (some .int)) ({ frames := 1, cells := 0, slots := 0, locals := 25 } : Room)).room) s m [.ref (a 99), .int x1, .int x2, .int x3].toArray below meth c H locs 0 0 (MQ below (va_Qi (fun r w => r = res.1 ∧ w = res.2) (bW D q (wX6 q a v) s.heap.size (fun (uu : SV) => wX6 q a uu)) (va_A (wX6 q a v) s.heap.size)) [.ref (a 99), .int x1, .int x2, .int x3].toArray s 0 0 (va_A (wX6 q a v) s.heap.size)) (F0 m 82 ls []) := by
            intro z56 hm H9 locs9 hP9 hD9 hS9 ls8 hl8
            unfold m_X6_sheet_K56 at hm
            refine lv_iconst (v := (1 : Int32)) hx hb dX6_sheet_82 (by decide) ?_
            exact eWi (Wf := fun (uu : SV) => wX6 q a uu) (u := z56.2) X hr hlocks hP9 hD9 hS9 hm dX6_sheet_83
          have hL56 : ∀ (n : Nat) (z56 : Int32 × SV) (ρ56 : Int32 × SV), lpO (m_X6_sheet_L56 x1) n z56 = some ρ56 → (m_X6_sheet_K56) ρ56 = some res → ∀ (H : Heap) (locs : List Loc), va_P D cls (wX6 q a z56.2) H → va_D (va_A (wX6 q a v) s.heap.size) (wX6 q a z56.2) → va_S (va_A (wX6 q a v) s.heap.size) s.heap H locs → ∀ ls : Array Slot, lv_has ls 5 [(0, .ref (a 99)), (1, .int x1), (4, .int z56.1)] → W p l e ((headSpec (mw yX6_sheet cX6_sheet 5 (some .int)) ({ frames := 1, cells := 0, slots := 0, locals := 25 } : Room)).room) s m [.ref (a 99), .int x1, .int x2, .int x3].toArray below meth c H locs 0 0 (MQ below (va_Qi (fun r w => r = res.1 ∧ w = res.2) (bW D q (wX6 q a v) s.heap.size (fun (uu : SV) => wX6 q a uu)) (va_A (wX6 q a v) s.heap.size)) [.ref (a 99), .int x1, .int x2, .int x3].toArray s 0 0 (va_A (wX6 q a v) s.heap.size)) (F0 m 56 ls []) := by
            intro n
            induction n with
            | zero => intro _ _ h; cases h
            | succ n ih56 =>
              intro z56 ρ56 hz56 hK56 H7 locs7 hP7 hD7 hS7 ls6 hl6
              obtain ⟨t56, hm, hz56⟩ := bn hz56
              unfold m_X6_sheet_L56 at hm
              refine lv_iload hx hb dX6_sheet_56 (lv_at hl6 2 rfl) ?_
              refine lv_bipush (v := (40 : Int32)) hx hb dX6_sheet_58 (by decide) ?_
              refine lv_icmp_ge (tgt := 82) hx hb dX6_sheet_60 (by decide) (fun c60 => ?_) (fun c60 => ?_)
              · replace hm := tp hm c60
                cases hm
                cases hz56
                exact hE56 (z56.1, z56.2) hK56 _ _ hP7 hD7 hS7 _ (lv_sub hl6 [] rfl)
              · replace hm := tn hm c60
                refine lv_aload_n hx hb dX6_sheet_63 rfl (lv_at hl6 0 rfl) ?_
                refine va_get (D := D) (ci := 6) (v := .ref (a 38)) (C := RX6) (T := TX6) (N := 40) hx hb hW iX6 hown hK hP7 0 rfl rfl 38 (by decide) (hW _ k_905) (fun _ h => h) rfl dX6_sheet_64 ?_
                refine lv_bipush (v := (40 : Int32)) hx hb dX6_sheet_67 (by decide) ?_
                refine lv_iload_n hx hb dX6_sheet_69 rfl (lv_at hl6 1 rfl) ?_
                refine lv_imul hx hb dX6_sheet_70 ?_
                refine lv_iload hx hb dX6_sheet_71 (lv_at hl6 2 rfl) ?_
                refine lv_iadd hx hb dX6_sheet_73 ?_
                refine lv_iconst (v := (0 : Int32)) hx hb dX6_sheet_74 (by decide) ?_
                obtain ⟨h10, hm⟩ := ckd hm
                refine va_iast (f := (z56.2 38)) hx hb hK hP7 hD7 hS7 17 0 rfl rfl (inB_vp h10) dX6_sheet_75 (fun H11 locs11 hP hD hS11 => ?_)
                obtain ⟨v11_, e11, hm⟩ := ltd hm
                have hP11 : va_P D cls (wX6 q a v11_) H11 := by rw [e11]; exact hP
                have hD11 : va_D (va_A (wX6 q a v) s.heap.size) (wX6 q a v11_) := by rw [e11]; exact hD
                clear hP hD hP7 hD7 hS7
                refine lv_iinc (v := (z56.1 + (1 : Int32))) (lv' := [(4, .int (z56.1 + (1 : Int32))), (0, .ref (a 99)), (1, .int x1)]) hx hb dX6_sheet_76 hl6 (k := 2) rfl rfl (by decide) rfl (fun ls12 hl12 => ?_)
                clear hl6
                refine lv_goto (tgt := 56) hx hb dX6_sheet_79 (by decide) ?_
                cases hm
                exact ih56 ((z56.1 + (1 : Int32)), v11_) ρ56 hz56 hK56 _ _ hP11 hD11 hS11 _ (lv_sub hl12 [1, 2, 0] rfl)
          exact hL56 n56 ((0 : Int32), v4_) r56 hn56 hm _ _ hP4 hD4 hS4 _ (lv_sub hl5 [1, 2, 0] rfl)
        · replace hm := tn hm c33
          refine lv_bipush (v := (-14 : Int32)) hx hb dX6_sheet_36 (by decide) ?_
          exact eWi (Wf := fun (uu : SV) => wX6 q a uu) (u := v) X hr hlocks hP0 hD0 hS0 hm dX6_sheet_38
      · replace hm := tn hm c27
        refine lv_iconst (v := (-1 : Int32)) hx hb dX6_sheet_30 (by decide) ?_
        exact eWi (Wf := fun (uu : SV) => wX6 q a uu) (u := v) X hr hlocks hP0 hD0 hS0 hm dX6_sheet_31
noncomputable def m_X6_lay (v : SV) (x1 : Int32) (x2 : Int32) (x3 : Int32) : Option (Int32 × SV) :=
  (m_X6_in (x1.toInt64) (0 : Int64) (3 : Int64)).bind (fun y6 => (if y6 = 0 then some ((-1 : Int32), v) else ck (inB x1 4) ((if (v 36 ((x1).toNatClampNeg)) = (-4 : Int32) then some ((-11 : Int32), v) else ck (inB x1 4) ((m_X6_in (x2.toInt64) (0 : Int64) (((v 37 ((x1).toNatClampNeg)) - (1 : Int32)).toInt64)).bind (fun y40 => (if y40 = 0 then some ((-12 : Int32), v) else ck (inB x1 4) ((if (v 36 ((x1).toNatClampNeg)) = 0 then ck (inB (((40 : Int32) * x1) + x2) 160) (lett (up2 v 38 (((((40 : Int32) * x1) + x2)).toNatClampNeg) ((x3 <<< ((24 : Int32) &&& 31)) >>> ((24 : Int32) &&& 31))) (fun v5_ => some ((1 : Int32), v5_))) else ck (inB x1 4) ((if (v 36 ((x1).toNatClampNeg)) = (1 : Int32) then ck (inB (((40 : Int32) * x1) + x2) 160) (lett (up2 v 38 (((((40 : Int32) * x1) + x2)).toNatClampNeg) ((x3 <<< ((16 : Int32) &&& 31)) >>> ((16 : Int32) &&& 31))) (fun v8_ => some ((1 : Int32), v8_))) else ck (inB (((40 : Int32) * x1) + x2) 160) (lett (up2 v 38 (((((40 : Int32) * x1) + x2)).toNatClampNeg) x3) (fun v10_ => some ((1 : Int32), v10_))))))))))))))
set_option maxHeartbeats 4000000 in
set_option maxRecDepth 100000 in
theorem c_X6_lay (l : Launch) (D : va_G) (q : Nat → ClassId) (sz : Nat) (a : Nat → Nat) (v : SV) (x1 : Int32) (x2 : Int32) (x3 : Int32) (res : Int32 × SV) (hm : m_X6_lay v x1 x2 x3 = some res) : Met l yX6_lay (mw yX6_lay cX6_lay 4 (some .int)) ({ frames := 1, cells := 0, slots := 0, locals := 25 } : Room) (pcW D q (wX6 q a v) sz [.ref (a 99), .int x1, .int x2, .int x3]) (va_Qi (fun r w => r = res.1 ∧ w = res.2) (bW D q (wX6 q a v) sz (fun (uu : SV) => wX6 q a uu)) (va_A (wX6 q a v) sz)) 0 0 (va_A (wX6 q a v) sz) := by
  refine Met.ofW (cc := cX6_lay) (maxL := 4) (ret := (some .int)) (by decide) rfl ?_
  intro p e s m args below meth c s₁ B hml hv
  obtain ⟨rfl, hsz, hP0, hK, hD0⟩ := hv
  have hx := B.exec
  have hb := B.bytes
  have hr := B.returns
  have hW := mw_ws (atoms_spec (ws := mw yX6_lay cX6_lay 4 (some .int)) B.pre)
  have hown : s.vm.findClass RX6 = some m.cls := findClass_of_methodNamed B.named
  have hlocks := B.notSynchronized
  have X : Cx p s m [.ref (a 99), .int x1, .int x2, .int x3].toArray c cX6_lay 4 RX6 D q := ⟨hx, hb, hml, hown, hW, hK⟩
  subst hsz
  replace hD0 := hD0.self (sz := s.heap.size)
  have hS0 : va_S (va_A (wX6 q a v) s.heap.size) s.heap s.heap [] := va_S.rf
  have hl0 := lv_entry ([.ref (a 99), .int x1, .int x2, .int x3]) (n := 4) (Nat.le_of_ble_eq_true rfl)
  rw [lg_entry_eq]
  generalize (lg_sl ([.ref (a 99), .int x1, .int x2, .int x3]) ++ List.replicate (4 - (lg_sl ([.ref (a 99), .int x1, .int x2, .int x3])).length) Slot.unset).toArray = ls0 at hl0 ⊢
  have hl0 : lv_has ls0 4 [(0, .ref (a 99)), (1, .int x1), (2, .int x2), (3, .int x3)] := hl0
  unfold m_X6_lay at hm
  refine lv_iload_n hx hb dX6_lay_0 rfl (lv_at hl0 1 rfl) ?_
  refine lv_i2l hx hb dX6_lay_1 rfl ?_
  refine lv_lconst (v := (0 : Int64)) hx hb dX6_lay_2 (by decide) ?_
  refine lv_ldc2 (v := (3 : Int64)) hx hb hown (hW _ k_1152) dX6_lay_3 ?_
  obtain ⟨y6, hy6, hm⟩ := bn hm
  refine cSRi (As := [.long (x1.toInt64), .long (0 : Int64), .long (3 : Int64)]) (rest := []) X hP0 hl0.1 (c_X6_in l D q (x1.toInt64) (0 : Int64) (3 : Int64) y6 hy6) [] rfl k_993 mX6_in ⟨rfl, rfl⟩ ⟨Nat.le_of_ble_eq_true rfl, Nat.le_of_ble_eq_true rfl⟩ rfl rfl (Nat.le_of_ble_eq_true rfl) dX6_lay_6 ⟨Nat.zero_le _, Nat.zero_le _⟩ ?_
  refine lv_if_ne (tgt := 14) hx hb dX6_lay_9 (by decide) (fun c9 => ?_) (fun c9 => ?_)
  · replace hm := tn hm c9
    refine lv_aload_n hx hb dX6_lay_14 rfl (lv_at hl0 0 rfl) ?_
    refine va_get (D := D) (ci := 6) (v := .ref (a 36)) (C := RX6) (T := TX6) (N := 40) hx hb hW iX6 hown hK hP0 0 rfl rfl 36 (by decide) (hW _ k_903) (fun _ h => h) rfl dX6_lay_15 ?_
    refine lv_iload_n hx hb dX6_lay_18 rfl (lv_at hl0 1 rfl) ?_
    obtain ⟨h1, hm⟩ := ckd hm
    refine va_iald (f := (v 36)) hx hb hK hP0 15 0 rfl rfl (inB_vp h1) dX6_lay_19 ?_
    refine lv_bipush (v := (-4 : Int32)) hx hb dX6_lay_20 (by decide) ?_
    refine lv_icmp_ne (tgt := 28) hx hb dX6_lay_22 (by decide) (fun c22 => ?_) (fun c22 => ?_)
    · replace hm := tn hm c22
      refine lv_iload_n hx hb dX6_lay_28 rfl (lv_at hl0 2 rfl) ?_
      refine lv_i2l hx hb dX6_lay_29 rfl ?_
      refine lv_lconst (v := (0 : Int64)) hx hb dX6_lay_30 (by decide) ?_
      refine lv_aload_n hx hb dX6_lay_31 rfl (lv_at hl0 0 rfl) ?_
      refine va_get (D := D) (ci := 6) (v := .ref (a 37)) (C := RX6) (T := TX6) (N := 40) hx hb hW iX6 hown hK hP0 0 rfl rfl 37 (by decide) (hW _ k_904) (fun _ h => h) rfl dX6_lay_32 ?_
      refine lv_iload_n hx hb dX6_lay_35 rfl (lv_at hl0 1 rfl) ?_
      obtain ⟨h2, hm⟩ := ckd hm
      refine va_iald (f := (v 37)) hx hb hK hP0 16 0 rfl rfl (inB_vp h2) dX6_lay_36 ?_
      refine lv_iconst (v := (1 : Int32)) hx hb dX6_lay_37 (by decide) ?_
      refine lv_isub hx hb dX6_lay_38 ?_
      refine lv_i2l hx hb dX6_lay_39 rfl ?_
      obtain ⟨y40, hy40, hm⟩ := bn hm
      refine cSRi (As := [.long (x2.toInt64), .long (0 : Int64), .long (((v 37 ((x1).toNatClampNeg)) - (1 : Int32)).toInt64)]) (rest := []) X hP0 hl0.1 (c_X6_in l D q (x2.toInt64) (0 : Int64) (((v 37 ((x1).toNatClampNeg)) - (1 : Int32)).toInt64) y40 hy40) [] rfl k_993 mX6_in ⟨rfl, rfl⟩ ⟨Nat.le_of_ble_eq_true rfl, Nat.le_of_ble_eq_true rfl⟩ rfl rfl (Nat.le_of_ble_eq_true rfl) dX6_lay_40 ⟨Nat.zero_le _, Nat.zero_le _⟩ ?_
      refine lv_if_ne (tgt := 49) hx hb dX6_lay_43 (by decide) (fun c43 => ?_) (fun c43 => ?_)
      · replace hm := tn hm c43
        refine lv_aload_n hx hb dX6_lay_49 rfl (lv_at hl0 0 rfl) ?_
        refine va_get (D := D) (ci := 6) (v := .ref (a 38)) (C := RX6) (T := TX6) (N := 40) hx hb hW iX6 hown hK hP0 0 rfl rfl 38 (by decide) (hW _ k_905) (fun _ h => h) rfl dX6_lay_50 ?_
        refine lv_bipush (v := (40 : Int32)) hx hb dX6_lay_53 (by decide) ?_
        refine lv_iload_n hx hb dX6_lay_55 rfl (lv_at hl0 1 rfl) ?_
        refine lv_imul hx hb dX6_lay_56 ?_
        refine lv_iload_n hx hb dX6_lay_57 rfl (lv_at hl0 2 rfl) ?_
        refine lv_iadd hx hb dX6_lay_58 ?_
        refine lv_aload_n hx hb dX6_lay_59 rfl (lv_at hl0 0 rfl) ?_
        refine va_get (D := D) (ci := 6) (v := .ref (a 36)) (C := RX6) (T := TX6) (N := 40) hx hb hW iX6 hown hK hP0 0 rfl rfl 36 (by decide) (hW _ k_903) (fun _ h => h) rfl dX6_lay_60 ?_
        refine lv_iload_n hx hb dX6_lay_63 rfl (lv_at hl0 1 rfl) ?_
        obtain ⟨h3, hm⟩ := ckd hm
        refine va_iald (f := (v 36)) hx hb hK hP0 15 0 rfl rfl (inB_vp h3) dX6_lay_64 ?_
        refine lv_if_ne (tgt := 78) hx hb dX6_lay_65 (by decide) (fun c65 => ?_) (fun c65 => ?_)
        · replace hm := tn hm c65
          refine lv_aload_n hx hb dX6_lay_78 rfl (lv_at hl0 0 rfl) ?_
          refine va_get (D := D) (ci := 6) (v := .ref (a 36)) (C := RX6) (T := TX6) (N := 40) hx hb hW iX6 hown hK hP0 0 rfl rfl 36 (by decide) (hW _ k_903) (fun _ h => h) rfl dX6_lay_79 ?_
          refine lv_iload_n hx hb dX6_lay_82 rfl (lv_at hl0 1 rfl) ?_
          obtain ⟨h6, hm⟩ := ckd hm
          refine va_iald (f := (v 36)) hx hb hK hP0 15 0 rfl rfl (inB_vp h6) dX6_lay_83 ?_
          refine lv_iconst (v := (1 : Int32)) hx hb dX6_lay_84 (by decide) ?_
          refine lv_icmp_ne (tgt := 98) hx hb dX6_lay_85 (by decide) (fun c85 => ?_) (fun c85 => ?_)
          · replace hm := tn hm c85
            refine lv_iload_n hx hb dX6_lay_98 rfl (lv_at hl0 3 rfl) ?_
            obtain ⟨h9, hm⟩ := ckd hm
            refine va_iast (f := (v 38)) hx hb hK hP0 hD0 hS0 17 0 rfl rfl (inB_vp h9) dX6_lay_99 (fun H10 locs10 hP hD hS10 => ?_)
            obtain ⟨v10_, e10, hm⟩ := ltd hm
            have hP10 : va_P D cls (wX6 q a v10_) H10 := by rw [e10]; exact hP
            have hD10 : va_D (va_A (wX6 q a v) s.heap.size) (wX6 q a v10_) := by rw [e10]; exact hD
            clear hP hD hP0 hD0 hS0
            refine lv_iconst (v := (1 : Int32)) hx hb dX6_lay_100 (by decide) ?_
            exact eWi (Wf := fun (uu : SV) => wX6 q a uu) (u := v10_) X hr hlocks hP10 hD10 hS10 hm dX6_lay_101
          · replace hm := tp hm c85
            refine lv_iload_n hx hb dX6_lay_88 rfl (lv_at hl0 3 rfl) ?_
            refine lv_bipush (v := (16 : Int32)) hx hb dX6_lay_89 (by decide) ?_
            refine lv_ishl hx hb dX6_lay_91 ?_
            refine lv_bipush (v := (16 : Int32)) hx hb dX6_lay_92 (by decide) ?_
            refine lv_ishr hx hb dX6_lay_94 ?_
            refine lv_goto (tgt := 99) hx hb dX6_lay_95 (by decide) ?_
            obtain ⟨h7, hm⟩ := ckd hm
            refine va_iast (f := (v 38)) hx hb hK hP0 hD0 hS0 17 0 rfl rfl (inB_vp h7) dX6_lay_99 (fun H8 locs8 hP hD hS8 => ?_)
            obtain ⟨v8_, e8, hm⟩ := ltd hm
            have hP8 : va_P D cls (wX6 q a v8_) H8 := by rw [e8]; exact hP
            have hD8 : va_D (va_A (wX6 q a v) s.heap.size) (wX6 q a v8_) := by rw [e8]; exact hD
            clear hP hD hP0 hD0 hS0
            refine lv_iconst (v := (1 : Int32)) hx hb dX6_lay_100 (by decide) ?_
            exact eWi (Wf := fun (uu : SV) => wX6 q a uu) (u := v8_) X hr hlocks hP8 hD8 hS8 hm dX6_lay_101
        · replace hm := tp hm c65
          refine lv_iload_n hx hb dX6_lay_68 rfl (lv_at hl0 3 rfl) ?_
          refine lv_bipush (v := (24 : Int32)) hx hb dX6_lay_69 (by decide) ?_
          refine lv_ishl hx hb dX6_lay_71 ?_
          refine lv_bipush (v := (24 : Int32)) hx hb dX6_lay_72 (by decide) ?_
          refine lv_ishr hx hb dX6_lay_74 ?_
          refine lv_goto (tgt := 99) hx hb dX6_lay_75 (by decide) ?_
          obtain ⟨h4, hm⟩ := ckd hm
          refine va_iast (f := (v 38)) hx hb hK hP0 hD0 hS0 17 0 rfl rfl (inB_vp h4) dX6_lay_99 (fun H5 locs5 hP hD hS5 => ?_)
          obtain ⟨v5_, e5, hm⟩ := ltd hm
          have hP5 : va_P D cls (wX6 q a v5_) H5 := by rw [e5]; exact hP
          have hD5 : va_D (va_A (wX6 q a v) s.heap.size) (wX6 q a v5_) := by rw [e5]; exact hD
          clear hP hD hP0 hD0 hS0
          refine lv_iconst (v := (1 : Int32)) hx hb dX6_lay_100 (by decide) ?_
          exact eWi (Wf := fun (uu : SV) => wX6 q a uu) (u := v5_) X hr hlocks hP5 hD5 hS5 hm dX6_lay_101
      · replace hm := tp hm c43
        refine lv_bipush (v := (-12 : Int32)) hx hb dX6_lay_46 (by decide) ?_
        exact eWi (Wf := fun (uu : SV) => wX6 q a uu) (u := v) X hr hlocks hP0 hD0 hS0 hm dX6_lay_48
    · replace hm := tp hm c22
      refine lv_bipush (v := (-11 : Int32)) hx hb dX6_lay_25 (by decide) ?_
      exact eWi (Wf := fun (uu : SV) => wX6 q a uu) (u := v) X hr hlocks hP0 hD0 hS0 hm dX6_lay_27
  · replace hm := tp hm c9
    refine lv_iconst (v := (-1 : Int32)) hx hb dX6_lay_12 (by decide) ?_
    exact eWi (Wf := fun (uu : SV) => wX6 q a uu) (u := v) X hr hlocks hP0 hD0 hS0 hm dX6_lay_13
noncomputable def m_X6_read_K56 (z56 : Int32 × Int32 × Int32 × SV) : Option (Int32 × SV) :=
  lett (up2 z56.2.2.2 0 39 z56.1) (fun v9_ => some (z56.2.1, v9_))
noncomputable def m_X6_read_J126 (x1 : Int32) (x3 : Int32) (z56 : Int32 × Int32 × Int32 × SV) (z126 : Int32) : Option ((Int32 × Int32 × Int32 × SV) ⊕ ((Int32 × Int32 × Int32 × SV) ⊕ (Int32 × SV))) :=
  (if z126 = 0 then (if (z56.2.2.1 - z56.2.2.1 / (2 : Int32) * (2 : Int32)) = (1 : Int32) then ck (inB (((((40 : Int32) * x1) + x3) + z56.2.2.1) - (1 : Int32)) 160) (ck (inB ((((40 : Int32) * x1) + x3) + z56.2.2.1) 160) ((m_X6_painted z56.2.2.2 (z56.2.2.2 38 (((((((40 : Int32) * x1) + x3) + z56.2.2.1) - (1 : Int32))).toNatClampNeg)) (z56.2.2.2 38 ((((((40 : Int32) * x1) + x3) + z56.2.2.1)).toNatClampNeg))).bind (fun y169 => (if 0 ≤ y169.1 then some (.inl (z126, (z56.2.1 + (1 : Int32)), (z56.2.2.1 + (1 : Int32)), y169.2)) else (m_X6_copies y169.2 (189 : Int32) (0 : Int32)).bind (fun y180 => some (.inr (.inr (((-20 : Int32) - z56.2.1), y180)))))))) else some (.inl (z126, z56.2.1, (z56.2.2.1 + (1 : Int32)), z56.2.2.2))) else some (.inl (z126, z56.2.1, (z56.2.2.1 + (1 : Int32)), z56.2.2.2)))
noncomputable def m_X6_read_L56 (x1 : Int32) (x2 : Int32) (x3 : Int32) (x4 : Int32) (z56 : Int32 × Int32 × Int32 × SV) : Option ((Int32 × Int32 × Int32 × SV) ⊕ ((Int32 × Int32 × Int32 × SV) ⊕ (Int32 × SV))) :=
  (if ((2 : Int32) * x4) ≤ z56.2.2.1 then some (.inr (.inl (z56.1, z56.2.1, z56.2.2.1, z56.2.2.2))) else (if z56.1 = 0 then ck (inB x1 4) ((if (z56.2.2.2 36 ((x1).toNatClampNeg)) = (-4 : Int32) then m_X6_read_J126 x1 x3 z56 (1 : Int32) else ck (inB x1 4) ((if (z56.2.2.2 36 ((x1).toNatClampNeg)) = x2 then ck (inB x1 4) ((m_X6_in ((x3.toInt64) + (z56.2.2.1.toInt64)) (0 : Int64) (((z56.2.2.2 37 ((x1).toNatClampNeg)) - (1 : Int32)).toInt64)).bind (fun y115 => (if y115 = 0 then m_X6_read_J126 x1 x3 z56 (2 : Int32) else m_X6_read_J126 x1 x3 z56 (0 : Int32)))) else m_X6_read_J126 x1 x3 z56 (3 : Int32))))) else some (.inr (.inl (z56.1, z56.2.1, z56.2.2.1, z56.2.2.2)))))
noncomputable def m_X6_read (v : SV) (x1 : Int32) (x2 : Int32) (x3 : Int32) (x4 : Int32) : Option (Int32 × SV) :=
  (m_X6_in (x1.toInt64) (0 : Int64) (3 : Int64)).bind (fun y6 => (if y6 = 0 then some ((-1 : Int32), v) else (m_X6_in (x2.toInt64) (0 : Int64) (2 : Int64)).bind (fun y18 => (if y18 = 0 then some ((-1 : Int32), v) else (m_X6_in (x4.toInt64) (0 : Int64) (20 : Int64)).bind (fun y31 => (if y31 = 0 then some ((-1 : Int32), v) else (m_X6_copies v (0 : Int32) (189 : Int32)).bind (fun y44 => (lpC (m_X6_read_L56 x1 x2 x3 x4) ((0 : Int32), (0 : Int32), (0 : Int32), y44)).bind (Sum.elim (m_X6_read_K56) (fun y => some y)))))))))
set_option maxHeartbeats 4000000 in
set_option maxRecDepth 100000 in
theorem c_X6_read (l : Launch) (D : va_G) (q : Nat → ClassId) (sz : Nat) (a : Nat → Nat) (v : SV) (x1 : Int32) (x2 : Int32) (x3 : Int32) (x4 : Int32) (res : Int32 × SV) (hm : m_X6_read v x1 x2 x3 x4 = some res) : Met l yX6_read (mw yX6_read cX6_read 9 (some .int)) ({ frames := 3, cells := 0, slots := 0, locals := 68 } : Room) (pcW D q (wX6 q a v) sz [.ref (a 99), .int x1, .int x2, .int x3, .int x4]) (va_Qi (fun r w => r = res.1 ∧ w = res.2) (bW D q (wX6 q a v) sz (fun (uu : SV) => wX6 q a uu)) (va_A (wX6 q a v) sz)) 0 0 (va_A (wX6 q a v) sz) := by
  refine Met.ofW (cc := cX6_read) (maxL := 9) (ret := (some .int)) (by decide) rfl ?_
  intro p e s m args below meth c s₁ B hml hv
  obtain ⟨rfl, hsz, hP0, hK, hD0⟩ := hv
  have hx := B.exec
  have hb := B.bytes
  have hr := B.returns
  have hW := mw_ws (atoms_spec (ws := mw yX6_read cX6_read 9 (some .int)) B.pre)
  have hown : s.vm.findClass RX6 = some m.cls := findClass_of_methodNamed B.named
  have hlocks := B.notSynchronized
  have X : Cx p s m [.ref (a 99), .int x1, .int x2, .int x3, .int x4].toArray c cX6_read 9 RX6 D q := ⟨hx, hb, hml, hown, hW, hK⟩
  subst hsz
  replace hD0 := hD0.self (sz := s.heap.size)
  have hS0 : va_S (va_A (wX6 q a v) s.heap.size) s.heap s.heap [] := va_S.rf
  have hl0 := lv_entry ([.ref (a 99), .int x1, .int x2, .int x3, .int x4]) (n := 9) (Nat.le_of_ble_eq_true rfl)
  rw [lg_entry_eq]
  generalize (lg_sl ([.ref (a 99), .int x1, .int x2, .int x3, .int x4]) ++ List.replicate (9 - (lg_sl ([.ref (a 99), .int x1, .int x2, .int x3, .int x4])).length) Slot.unset).toArray = ls0 at hl0 ⊢
  have hl0 : lv_has ls0 9 [(0, .ref (a 99)), (1, .int x1), (2, .int x2), (3, .int x3), (4, .int x4)] := hl0
  unfold m_X6_read at hm
  refine lv_iload_n hx hb dX6_read_0 rfl (lv_at hl0 1 rfl) ?_
  refine lv_i2l hx hb dX6_read_1 rfl ?_
  refine lv_lconst (v := (0 : Int64)) hx hb dX6_read_2 (by decide) ?_
  refine lv_ldc2 (v := (3 : Int64)) hx hb hown (hW _ k_1152) dX6_read_3 ?_
  obtain ⟨y6, hy6, hm⟩ := bn hm
  refine cSRi (As := [.long (x1.toInt64), .long (0 : Int64), .long (3 : Int64)]) (rest := []) X hP0 hl0.1 (c_X6_in l D q (x1.toInt64) (0 : Int64) (3 : Int64) y6 hy6) [] rfl k_993 mX6_in ⟨rfl, rfl⟩ ⟨Nat.le_of_ble_eq_true rfl, Nat.le_of_ble_eq_true rfl⟩ rfl rfl (Nat.le_of_ble_eq_true rfl) dX6_read_6 ⟨Nat.zero_le _, Nat.zero_le _⟩ ?_
  refine lv_if_eq (tgt := 37) hx hb dX6_read_9 (by decide) (fun c9 => ?_) (fun c9 => ?_)
  · replace hm := tp hm c9
    refine lv_iconst (v := (-1 : Int32)) hx hb dX6_read_37 (by decide) ?_
    exact eWi (Wf := fun (uu : SV) => wX6 q a uu) (u := v) X hr hlocks hP0 hD0 hS0 hm dX6_read_38
  · replace hm := tn hm c9
    refine lv_iload_n hx hb dX6_read_12 rfl (lv_at hl0 2 rfl) ?_
    refine lv_i2l hx hb dX6_read_13 rfl ?_
    refine lv_lconst (v := (0 : Int64)) hx hb dX6_read_14 (by decide) ?_
    refine lv_ldc2 (v := (2 : Int64)) hx hb hown (hW _ k_1114) dX6_read_15 ?_
    obtain ⟨y18, hy18, hm⟩ := bn hm
    refine cSRi (As := [.long (x2.toInt64), .long (0 : Int64), .long (2 : Int64)]) (rest := []) X hP0 hl0.1 (c_X6_in l D q (x2.toInt64) (0 : Int64) (2 : Int64) y18 hy18) [] rfl k_993 mX6_in ⟨rfl, rfl⟩ ⟨Nat.le_of_ble_eq_true rfl, Nat.le_of_ble_eq_true rfl⟩ rfl rfl (Nat.le_of_ble_eq_true rfl) dX6_read_18 ⟨Nat.zero_le _, Nat.zero_le _⟩ ?_
    refine lv_if_eq (tgt := 37) hx hb dX6_read_21 (by decide) (fun c21 => ?_) (fun c21 => ?_)
    · replace hm := tp hm c21
      refine lv_iconst (v := (-1 : Int32)) hx hb dX6_read_37 (by decide) ?_
      exact eWi (Wf := fun (uu : SV) => wX6 q a uu) (u := v) X hr hlocks hP0 hD0 hS0 hm dX6_read_38
    · replace hm := tn hm c21
      refine lv_iload hx hb dX6_read_24 (lv_at hl0 4 rfl) ?_
      refine lv_i2l hx hb dX6_read_26 rfl ?_
      refine lv_lconst (v := (0 : Int64)) hx hb dX6_read_27 (by decide) ?_
      refine lv_ldc2 (v := (20 : Int64)) hx hb hown (hW _ k_1320) dX6_read_28 ?_
      obtain ⟨y31, hy31, hm⟩ := bn hm
      refine cSRi (As := [.long (x4.toInt64), .long (0 : Int64), .long (20 : Int64)]) (rest := []) X hP0 hl0.1 (c_X6_in l D q (x4.toInt64) (0 : Int64) (20 : Int64) y31 hy31) [] rfl k_993 mX6_in ⟨rfl, rfl⟩ ⟨Nat.le_of_ble_eq_true rfl, Nat.le_of_ble_eq_true rfl⟩ rfl rfl (Nat.le_of_ble_eq_true rfl) dX6_read_31 ⟨Nat.zero_le _, Nat.zero_le _⟩ ?_
      refine lv_if_ne (tgt := 39) hx hb dX6_read_34 (by decide) (fun c34 => ?_) (fun c34 => ?_)
      · replace hm := tn hm c34
        refine lv_aload_n hx hb dX6_read_39 rfl (lv_at hl0 0 rfl) ?_
        refine lv_iconst (v := (0 : Int32)) hx hb dX6_read_40 (by decide) ?_
        refine lv_sipush (v := (189 : Int32)) hx hb dX6_read_41 (by decide) ?_
        obtain ⟨y44, hy44, hm⟩ := bn hm
        refine cVWv (As := [.int (0 : Int32), .int (189 : Int32)]) (rest := []) (Wn := fun (uu : SV) => wX6 q a uu) X hP0 hD0 hS0 (fun _ h => Or.inr h) hl0.1 (c_X6_copies l D q s.heap.size a v (0 : Int32) (189 : Int32) y44 hy44) [0, 1, 2, 3, 4, 5, 6, 7, 8, 9, 10, 11, 12, 13, 14, 15, 16, 17] [] [0, 1, 2, 3, 4, 5, 6, 7, 8, 9, 10, 11, 12, 13, 14, 15, 16, 17] rfl (Wr := []) rfl (by decide) (by decide) (by decide) (by decide) (fun _ => rfl) 0 rfl rfl rfl k_1183 mX6_copies ⟨rfl, rfl⟩ ⟨Nat.le_of_ble_eq_true rfl, Nat.le_of_ble_eq_true rfl⟩ rfl rfl (Nat.le_of_ble_eq_true rfl) dX6_read_44 ⟨Nat.zero_le _, Nat.zero_le _⟩ (fun H1 locs1 hP hD hS1 => ?_)
        have hP1 : va_P D cls (wX6 q a y44) H1 := hP
        have hD1 : va_D (va_A (wX6 q a v) s.heap.size) (wX6 q a y44) := hD
        clear hP hD hP0 hD0 hS0
        refine lv_iconst (v := (0 : Int32)) hx hb dX6_read_47 (by decide) ?_
        refine lv_istore (lv' := [(5, .int (0 : Int32)), (0, .ref (a 99)), (1, .int x1), (2, .int x2), (3, .int x3), (4, .int x4)]) hx hb dX6_read_48 hl0 (by decide) rfl (fun ls2 hl2 => ?_)
        clear hl0
        refine lv_iconst (v := (0 : Int32)) hx hb dX6_read_50 (by decide) ?_
        refine lv_istore (lv' := [(6, .int (0 : Int32)), (5, .int (0 : Int32)), (0, .ref (a 99)), (1, .int x1), (2, .int x2), (3, .int x3), (4, .int x4)]) hx hb dX6_read_51 hl2 (by decide) rfl (fun ls3 hl3 => ?_)
        clear hl2
        refine lv_iconst (v := (0 : Int32)) hx hb dX6_read_53 (by decide) ?_
        refine lv_istore (lv' := [(7, .int (0 : Int32)), (6, .int (0 : Int32)), (5, .int (0 : Int32)), (0, .ref (a 99)), (1, .int x1), (2, .int x2), (3, .int x3), (4, .int x4)]) hx hb dX6_read_54 hl3 (by decide) rfl (fun ls4 hl4 => ?_)
        clear hl3
        obtain ⟨r56, hr56, hm⟩ := bn hm
        obtain ⟨n56, hn56⟩ := lpC_ex hr56
        have hE56 : ∀ z56 : Int32 × Int32 × Int32 × SV, m_X6_read_K56 z56 = some res → ∀ (H : Heap) (locs : List Loc), va_P D cls (wX6 q a z56.2.2.2) H → va_D (va_A (wX6 q a v) s.heap.size) (wX6 q a z56.2.2.2) → va_S (va_A (wX6 q a v) s.heap.size) s.heap H locs → ∀ ls : Array Slot, lv_has ls 9 [(0, .ref (a 99)), (5, .int z56.1), (6, .int z56.2.1)] → W p l e ((headSpec (mw yX6_read cX6_read 9 (some .int)) ({ frames := 3, cells := 0, slots := 0, locals := 68 } : Room)).room) s m [.ref (a 99), .int x1, .int x2, .int x3, .int x4].toArray below meth c H locs 0 0 (MQ below (va_Qi (fun r w => r = res.1 ∧ w = res.2) (bW D q (wX6 q a v) s.heap.size (fun (uu : SV) => wX6 q a uu)) (va_A (wX6 q a v) s.heap.size)) [.ref (a 99), .int x1, .int x2, .int x3, .int x4].toArray s 0 0 (va_A (wX6 q a v) s.heap.size)) (F0 m 198 ls []) := by
          intro z56 hm H8 locs8 hP8 hD8 hS8 ls7 hl7
          unfold m_X6_read_K56 at hm
          refine lv_aload_n hx hb dX6_read_198 rfl (lv_at hl7 0 rfl) ?_
          refine lv_iload hx hb dX6_read_199 (lv_at hl7 1 rfl) ?_
          refine va_put (D := D) (ci := 6) (v := .int z56.1) (ty := .int) (C := RX6) (T := TX6) (N := 40) hx hb hW iX6 tyX6 tyX6_ok nmX6 hown hK hP8 hD8 hS8 0 rfl rfl 39 (by decide) (hW _ k_906) (fun _ h => h) rfl (by decide +kernel) rfl rfl (Nat.le_of_ble_eq_true rfl) dX6_read_201 (fun H9 locs9 hP hD hS9 => ?_)
          obtain ⟨v9_, e9, hm⟩ := ltd hm
          have hP9 : va_P D cls (wX6 q a v9_) H9 := by rw [e9]; exact hP
          have hD9 : va_D (va_A (wX6 q a v) s.heap.size) (wX6 q a v9_) := by rw [e9]; exact hD
          clear hP hD hP8 hD8 hS8
          refine lv_iload hx hb dX6_read_204 (lv_at hl7 2 rfl) ?_
          exact eWi (Wf := fun (uu : SV) => wX6 q a uu) (u := v9_) X hr hlocks hP9 hD9 hS9 hm dX6_read_206
        have hL56 : ∀ (n : Nat) (z56 : Int32 × Int32 × Int32 × SV) (ρ56 : (Int32 × Int32 × Int32 × SV) ⊕ (Int32 × SV)), lpO (m_X6_read_L56 x1 x2 x3 x4) n z56 = some ρ56 → (Sum.elim (m_X6_read_K56) (fun y => some y)) ρ56 = some res → ∀ (H : Heap) (locs : List Loc), va_P D cls (wX6 q a z56.2.2.2) H → va_D (va_A (wX6 q a v) s.heap.size) (wX6 q a z56.2.2.2) → va_S (va_A (wX6 q a v) s.heap.size) s.heap H locs → ∀ ls : Array Slot, lv_has ls 9 [(0, .ref (a 99)), (1, .int x1), (2, .int x2), (3, .int x3), (4, .int x4), (5, .int z56.1), (6, .int z56.2.1), (7, .int z56.2.2.1)] → W p l e ((headSpec (mw yX6_read cX6_read 9 (some .int)) ({ frames := 3, cells := 0, slots := 0, locals := 68 } : Room)).room) s m [.ref (a 99), .int x1, .int x2, .int x3, .int x4].toArray below meth c H locs 0 0 (MQ below (va_Qi (fun r w => r = res.1 ∧ w = res.2) (bW D q (wX6 q a v) s.heap.size (fun (uu : SV) => wX6 q a uu)) (va_A (wX6 q a v) s.heap.size)) [.ref (a 99), .int x1, .int x2, .int x3, .int x4].toArray s 0 0 (va_A (wX6 q a v) s.heap.size)) (F0 m 56 ls []) := by
          intro n
          induction n with
          | zero => intro _ _ h; cases h
          | succ n ih56 =>
            intro z56 ρ56 hz56 hK56 H6 locs6 hP6 hD6 hS6 ls5 hl5
            obtain ⟨t56, hm, hz56⟩ := bn hz56
            unfold m_X6_read_L56 at hm
            refine lv_iload hx hb dX6_read_56 (lv_at hl5 7 rfl) ?_
            refine lv_iconst (v := (2 : Int32)) hx hb dX6_read_58 (by decide) ?_
            refine lv_iload hx hb dX6_read_59 (lv_at hl5 4 rfl) ?_
            refine lv_imul hx hb dX6_read_61 ?_
            refine lv_icmp_ge (tgt := 198) hx hb dX6_read_62 (by decide) (fun c62 => ?_) (fun c62 => ?_)
            · replace hm := tp hm c62
              cases hm
              cases hz56
              exact hE56 (z56.1, z56.2.1, z56.2.2.1, z56.2.2.2) hK56 _ _ hP6 hD6 hS6 _ (lv_sub hl5 [0, 5, 6] rfl)
            · replace hm := tn hm c62
              refine lv_iload hx hb dX6_read_65 (lv_at hl5 5 rfl) ?_
              refine lv_if_ne (tgt := 198) hx hb dX6_read_67 (by decide) (fun c67 => ?_) (fun c67 => ?_)
              · replace hm := tn hm c67
                cases hm
                cases hz56
                exact hE56 (z56.1, z56.2.1, z56.2.2.1, z56.2.2.2) hK56 _ _ hP6 hD6 hS6 _ (lv_sub hl5 [0, 5, 6] rfl)
              · replace hm := tp hm c67
                refine lv_aload_n hx hb dX6_read_70 rfl (lv_at hl5 0 rfl) ?_
                refine va_get (D := D) (ci := 6) (v := .ref (a 36)) (C := RX6) (T := TX6) (N := 40) hx hb hW iX6 hown hK hP6 0 rfl rfl 36 (by decide) (hW _ k_903) (fun _ h => h) rfl dX6_read_71 ?_
                refine lv_iload_n hx hb dX6_read_74 rfl (lv_at hl5 1 rfl) ?_
                obtain ⟨h10, hm⟩ := ckd hm
                refine va_iald (f := (z56.2.2.2 36)) hx hb hK hP6 15 0 rfl rfl (inB_vp h10) dX6_read_75 ?_
                refine lv_bipush (v := (-4 : Int32)) hx hb dX6_read_76 (by decide) ?_
                have hJ126 : ∀ z126 : Int32, m_X6_read_J126 x1 x3 z56 z126 = some t56 → ∀ (H : Heap) (locs : List Loc), va_P D cls (wX6 q a z56.2.2.2) H → va_D (va_A (wX6 q a v) s.heap.size) (wX6 q a z56.2.2.2) → va_S (va_A (wX6 q a v) s.heap.size) s.heap H locs → ∀ ls : Array Slot, lv_has ls 9 [(0, .ref (a 99)), (1, .int x1), (2, .int x2), (3, .int x3), (4, .int x4), (6, .int z56.2.1), (7, .int z56.2.2.1)] → W p l e ((headSpec (mw yX6_read cX6_read 9 (some .int)) ({ frames := 3, cells := 0, slots := 0, locals := 68 } : Room)).room) s m [.ref (a 99), .int x1, .int x2, .int x3, .int x4].toArray below meth c H locs 0 0 (MQ below (va_Qi (fun r w => r = res.1 ∧ w = res.2) (bW D q (wX6 q a v) s.heap.size (fun (uu : SV) => wX6 q a uu)) (va_A (wX6 q a v) s.heap.size)) [.ref (a 99), .int x1, .int x2, .int x3, .int x4].toArray s 0 0 (va_A (wX6 q a v) s.heap.size)) (F0 m 126 ls [.int z126]) := by
                  intro z126 hm H12 locs12 hP12 hD12 hS12 ls11 hl11
                  unfold m_X6_read_J126 at hm
                  refine lv_istore (lv' := [(5, .int z126), (0, .ref (a 99)), (1, .int x1), (2, .int x2), (3, .int x3), (4, .int x4), (6, .int z56.2.1), (7, .int z56.2.2.1)]) hx hb dX6_read_126 hl11 (by decide) rfl (fun ls13 hl13 => ?_)
                  clear hl11
                  refine lv_iload hx hb dX6_read_128 (lv_at hl13 0 rfl) ?_
                  refine lv_if_ne (tgt := 192) hx hb dX6_read_130 (by decide) (fun c130 => ?_) (fun c130 => ?_)
                  · replace hm := tn hm c130
                    refine lv_iinc (v := (z56.2.2.1 + (1 : Int32))) (lv' := [(7, .int (z56.2.2.1 + (1 : Int32))), (5, .int z126), (0, .ref (a 99)), (1, .int x1), (2, .int x2), (3, .int x3), (4, .int x4), (6, .int z56.2.1)]) hx hb dX6_read_192 hl13 (k := 7) rfl rfl (by decide) rfl (fun ls22 hl22 => ?_)
                    clear hl13
                    refine lv_goto (tgt := 56) hx hb dX6_read_195 (by decide) ?_
                    cases hm
                    exact ih56 (z126, z56.2.1, (z56.2.2.1 + (1 : Int32)), z56.2.2.2) ρ56 hz56 hK56 _ _ hP12 hD12 hS12 _ (lv_sub hl22 [2, 3, 4, 5, 6, 1, 7, 0] rfl)
                  · replace hm := tp hm c130
                    refine lv_iload hx hb dX6_read_133 (lv_at hl13 7 rfl) ?_
                    refine lv_iconst (v := (2 : Int32)) hx hb dX6_read_135 (by decide) ?_
                    refine lv_irem hx hb dX6_read_136 (by decide) ?_
                    refine lv_iconst (v := (1 : Int32)) hx hb dX6_read_137 (by decide) ?_
                    refine lv_icmp_ne (tgt := 192) hx hb dX6_read_138 (by decide) (fun c138 => ?_) (fun c138 => ?_)
                    · replace hm := tn hm c138
                      refine lv_iinc (v := (z56.2.2.1 + (1 : Int32))) (lv' := [(7, .int (z56.2.2.1 + (1 : Int32))), (5, .int z126), (0, .ref (a 99)), (1, .int x1), (2, .int x2), (3, .int x3), (4, .int x4), (6, .int z56.2.1)]) hx hb dX6_read_192 hl13 (k := 7) rfl rfl (by decide) rfl (fun ls21 hl21 => ?_)
                      clear hl13
                      refine lv_goto (tgt := 56) hx hb dX6_read_195 (by decide) ?_
                      cases hm
                      exact ih56 (z126, z56.2.1, (z56.2.2.1 + (1 : Int32)), z56.2.2.2) ρ56 hz56 hK56 _ _ hP12 hD12 hS12 _ (lv_sub hl21 [2, 3, 4, 5, 6, 1, 7, 0] rfl)
                    · replace hm := tp hm c138
                      refine lv_bipush (v := (40 : Int32)) hx hb dX6_read_141 (by decide) ?_
                      refine lv_iload_n hx hb dX6_read_143 rfl (lv_at hl13 2 rfl) ?_
                      refine lv_imul hx hb dX6_read_144 ?_
                      refine lv_iload_n hx hb dX6_read_145 rfl (lv_at hl13 4 rfl) ?_
                      refine lv_iadd hx hb dX6_read_146 ?_
                      refine lv_iload hx hb dX6_read_147 (lv_at hl13 7 rfl) ?_
                      refine lv_iadd hx hb dX6_read_149 ?_
                      refine lv_istore (lv' := [(8, .int ((((40 : Int32) * x1) + x3) + z56.2.2.1)), (5, .int z126), (0, .ref (a 99)), (1, .int x1), (2, .int x2), (3, .int x3), (4, .int x4), (6, .int z56.2.1), (7, .int z56.2.2.1)]) hx hb dX6_read_150 hl13 (by decide) rfl (fun ls14 hl14 => ?_)
                      clear hl13
                      refine lv_aload_n hx hb dX6_read_152 rfl (lv_at hl14 2 rfl) ?_
                      refine lv_aload_n hx hb dX6_read_153 rfl (lv_at hl14 2 rfl) ?_
                      refine va_get (D := D) (ci := 6) (v := .ref (a 38)) (C := RX6) (T := TX6) (N := 40) hx hb hW iX6 hown hK hP12 0 rfl rfl 38 (by decide) (hW _ k_905) (fun _ h => h) rfl dX6_read_154 ?_
                      refine lv_iload hx hb dX6_read_157 (lv_at hl14 0 rfl) ?_
                      refine lv_iconst (v := (1 : Int32)) hx hb dX6_read_159 (by decide) ?_
                      refine lv_isub hx hb dX6_read_160 ?_
                      obtain ⟨h15, hm⟩ := ckd hm
                      refine va_iald (f := (z56.2.2.2 38)) hx hb hK hP12 17 0 rfl rfl (inB_vp h15) dX6_read_161 ?_
                      refine lv_aload_n hx hb dX6_read_162 rfl (lv_at hl14 2 rfl) ?_
                      refine va_get (D := D) (ci := 6) (v := .ref (a 38)) (C := RX6) (T := TX6) (N := 40) hx hb hW iX6 hown hK hP12 0 rfl rfl 38 (by decide) (hW _ k_905) (fun _ h => h) rfl dX6_read_163 ?_
                      refine lv_iload hx hb dX6_read_166 (lv_at hl14 0 rfl) ?_
                      obtain ⟨h16, hm⟩ := ckd hm
                      refine va_iald (f := (z56.2.2.2 38)) hx hb hK hP12 17 0 rfl rfl (inB_vp h16) dX6_read_168 ?_
                      obtain ⟨y169, hy169, hm⟩ := bn hm
                      refine cVWi (As := [.int (z56.2.2.2 38 (((((((40 : Int32) * x1) + x3) + z56.2.2.1) - (1 : Int32))).toNatClampNeg)), .int (z56.2.2.2 38 ((((((40 : Int32) * x1) + x3) + z56.2.2.1)).toNatClampNeg))]) (rest := []) (Wn := fun (uu : SV) => wX6 q a uu) X hP12 hD12 hS12 (fun _ h => Or.inr h) hl14.1 (c_X6_painted l D q H12.size a z56.2.2.2 (z56.2.2.2 38 (((((((40 : Int32) * x1) + x3) + z56.2.2.1) - (1 : Int32))).toNatClampNeg)) (z56.2.2.2 38 ((((((40 : Int32) * x1) + x3) + z56.2.2.1)).toNatClampNeg)) y169 hy169) [0, 1, 2, 3, 4, 5, 6, 7, 8, 9, 10, 11, 12, 13, 14, 15, 16, 17] [] [0, 1, 2, 3, 4, 5, 6, 7, 8, 9, 10, 11, 12, 13, 14, 15, 16, 17] rfl (Wr := []) rfl (by decide) (by decide) (by decide) (by decide) (fun _ => rfl) 0 rfl rfl rfl k_1136 mX6_painted ⟨rfl, rfl⟩ ⟨Nat.le_of_ble_eq_true rfl, Nat.le_of_ble_eq_true rfl⟩ rfl rfl (Nat.le_of_ble_eq_true rfl) dX6_read_169 ⟨Nat.zero_le _, Nat.zero_le _⟩ (fun H17 locs17 hP hD hS17 => ?_)
                      have hP17 : va_P D cls (wX6 q a y169.2) H17 := hP
                      have hD17 : va_D (va_A (wX6 q a v) s.heap.size) (wX6 q a y169.2) := hD
                      clear hP hD hP12 hD12 hS12
                      refine lv_if_ge (tgt := 189) hx hb dX6_read_172 (by decide) (fun c172 => ?_) (fun c172 => ?_)
                      · replace hm := tp hm c172
                        refine lv_iinc (v := (z56.2.1 + (1 : Int32))) (lv' := [(6, .int (z56.2.1 + (1 : Int32))), (8, .int ((((40 : Int32) * x1) + x3) + z56.2.2.1)), (5, .int z126), (0, .ref (a 99)), (1, .int x1), (2, .int x2), (3, .int x3), (4, .int x4), (7, .int z56.2.2.1)]) hx hb dX6_read_189 hl14 (k := 7) rfl rfl (by decide) rfl (fun ls18 hl18 => ?_)
                        clear hl14
                        refine lv_iinc (v := (z56.2.2.1 + (1 : Int32))) (lv' := [(7, .int (z56.2.2.1 + (1 : Int32))), (6, .int (z56.2.1 + (1 : Int32))), (8, .int ((((40 : Int32) * x1) + x3) + z56.2.2.1)), (5, .int z126), (0, .ref (a 99)), (1, .int x1), (2, .int x2), (3, .int x3), (4, .int x4)]) hx hb dX6_read_192 hl18 (k := 8) rfl rfl (by decide) rfl (fun ls19 hl19 => ?_)
                        clear hl18
                        refine lv_goto (tgt := 56) hx hb dX6_read_195 (by decide) ?_
                        cases hm
                        exact ih56 (z126, (z56.2.1 + (1 : Int32)), (z56.2.2.1 + (1 : Int32)), y169.2) ρ56 hz56 hK56 _ _ hP17 hD17 hS17 _ (lv_sub hl19 [4, 5, 6, 7, 8, 3, 1, 0] rfl)
                      · replace hm := tn hm c172
                        refine lv_aload_n hx hb dX6_read_175 rfl (lv_at hl14 2 rfl) ?_
                        refine lv_sipush (v := (189 : Int32)) hx hb dX6_read_176 (by decide) ?_
                        refine lv_iconst (v := (0 : Int32)) hx hb dX6_read_179 (by decide) ?_
                        obtain ⟨y180, hy180, hm⟩ := bn hm
                        refine cVWv (As := [.int (189 : Int32), .int (0 : Int32)]) (rest := []) (Wn := fun (uu : SV) => wX6 q a uu) X hP17 hD17 hS17 (fun _ h => Or.inr h) hl14.1 (c_X6_copies l D q H17.size a y169.2 (189 : Int32) (0 : Int32) y180 hy180) [0, 1, 2, 3, 4, 5, 6, 7, 8, 9, 10, 11, 12, 13, 14, 15, 16, 17] [] [0, 1, 2, 3, 4, 5, 6, 7, 8, 9, 10, 11, 12, 13, 14, 15, 16, 17] rfl (Wr := []) rfl (by decide) (by decide) (by decide) (by decide) (fun _ => rfl) 0 rfl rfl rfl k_1183 mX6_copies ⟨rfl, rfl⟩ ⟨Nat.le_of_ble_eq_true rfl, Nat.le_of_ble_eq_true rfl⟩ rfl rfl (Nat.le_of_ble_eq_true rfl) dX6_read_180 ⟨Nat.zero_le _, Nat.zero_le _⟩ (fun H20 locs20 hP hD hS20 => ?_)
                        have hP20 : va_P D cls (wX6 q a y180) H20 := hP
                        have hD20 : va_D (va_A (wX6 q a v) s.heap.size) (wX6 q a y180) := hD
                        clear hP hD hP17 hD17 hS17
                        refine lv_bipush (v := (-20 : Int32)) hx hb dX6_read_183 (by decide) ?_
                        refine lv_iload hx hb dX6_read_185 (lv_at hl14 7 rfl) ?_
                        refine lv_isub hx hb dX6_read_187 ?_
                        cases hm
                        cases hz56
                        have hm : (some (((-20 : Int32) - z56.2.1), y180) : Option (Int32 × SV)) = some res := hK56
                        exact eWi (Wf := fun (uu : SV) => wX6 q a uu) (u := y180) X hr hlocks hP20 hD20 hS20 hm dX6_read_188
                refine lv_icmp_ne (tgt := 85) hx hb dX6_read_78 (by decide) (fun c78 => ?_) (fun c78 => ?_)
                · replace hm := tn hm c78
                  refine lv_aload_n hx hb dX6_read_85 rfl (lv_at hl5 0 rfl) ?_
                  refine va_get (D := D) (ci := 6) (v := .ref (a 36)) (C := RX6) (T := TX6) (N := 40) hx hb hW iX6 hown hK hP6 0 rfl rfl 36 (by decide) (hW _ k_903) (fun _ h => h) rfl dX6_read_86 ?_
                  refine lv_iload_n hx hb dX6_read_89 rfl (lv_at hl5 1 rfl) ?_
                  obtain ⟨h23, hm⟩ := ckd hm
                  refine va_iald (f := (z56.2.2.2 36)) hx hb hK hP6 15 0 rfl rfl (inB_vp h23) dX6_read_90 ?_
                  refine lv_iload_n hx hb dX6_read_91 rfl (lv_at hl5 2 rfl) ?_
                  refine lv_icmp_eq (tgt := 99) hx hb dX6_read_92 (by decide) (fun c92 => ?_) (fun c92 => ?_)
                  · replace hm := tp hm c92
                    refine lv_iload_n hx hb dX6_read_99 rfl (lv_at hl5 3 rfl) ?_
                    refine lv_i2l hx hb dX6_read_100 rfl ?_
                    refine lv_iload hx hb dX6_read_101 (lv_at hl5 7 rfl) ?_
                    refine lv_i2l hx hb dX6_read_103 rfl ?_
                    refine lv_ladd hx hb dX6_read_104 ?_
                    refine lv_lconst (v := (0 : Int64)) hx hb dX6_read_105 (by decide) ?_
                    refine lv_aload_n hx hb dX6_read_106 rfl (lv_at hl5 0 rfl) ?_
                    refine va_get (D := D) (ci := 6) (v := .ref (a 37)) (C := RX6) (T := TX6) (N := 40) hx hb hW iX6 hown hK hP6 0 rfl rfl 37 (by decide) (hW _ k_904) (fun _ h => h) rfl dX6_read_107 ?_
                    refine lv_iload_n hx hb dX6_read_110 rfl (lv_at hl5 1 rfl) ?_
                    obtain ⟨h24, hm⟩ := ckd hm
                    refine va_iald (f := (z56.2.2.2 37)) hx hb hK hP6 16 0 rfl rfl (inB_vp h24) dX6_read_111 ?_
                    refine lv_iconst (v := (1 : Int32)) hx hb dX6_read_112 (by decide) ?_
                    refine lv_isub hx hb dX6_read_113 ?_
                    refine lv_i2l hx hb dX6_read_114 rfl ?_
                    obtain ⟨y115, hy115, hm⟩ := bn hm
                    refine cSRi (As := [.long ((x3.toInt64) + (z56.2.2.1.toInt64)), .long (0 : Int64), .long (((z56.2.2.2 37 ((x1).toNatClampNeg)) - (1 : Int32)).toInt64)]) (rest := []) X hP6 hl5.1 (c_X6_in l D q ((x3.toInt64) + (z56.2.2.1.toInt64)) (0 : Int64) (((z56.2.2.2 37 ((x1).toNatClampNeg)) - (1 : Int32)).toInt64) y115 hy115) [] rfl k_993 mX6_in ⟨rfl, rfl⟩ ⟨Nat.le_of_ble_eq_true rfl, Nat.le_of_ble_eq_true rfl⟩ rfl rfl (Nat.le_of_ble_eq_true rfl) dX6_read_115 ⟨Nat.zero_le _, Nat.zero_le _⟩ ?_
                    refine lv_if_ne (tgt := 125) hx hb dX6_read_118 (by decide) (fun c118 => ?_) (fun c118 => ?_)
                    · replace hm := tn hm c118
                      refine lv_iconst (v := (0 : Int32)) hx hb dX6_read_125 (by decide) ?_
                      exact hJ126 (0 : Int32) hm _ _ hP6 hD6 hS6 _ (lv_sub hl5 [0, 1, 2, 3, 4, 6, 7] rfl)
                    · replace hm := tp hm c118
                      refine lv_iconst (v := (2 : Int32)) hx hb dX6_read_121 (by decide) ?_
                      refine lv_goto (tgt := 126) hx hb dX6_read_122 (by decide) ?_
                      exact hJ126 (2 : Int32) hm _ _ hP6 hD6 hS6 _ (lv_sub hl5 [0, 1, 2, 3, 4, 6, 7] rfl)
                  · replace hm := tn hm c92
                    refine lv_iconst (v := (3 : Int32)) hx hb dX6_read_95 (by decide) ?_
                    refine lv_goto (tgt := 126) hx hb dX6_read_96 (by decide) ?_
                    exact hJ126 (3 : Int32) hm _ _ hP6 hD6 hS6 _ (lv_sub hl5 [0, 1, 2, 3, 4, 6, 7] rfl)
                · replace hm := tp hm c78
                  refine lv_iconst (v := (1 : Int32)) hx hb dX6_read_81 (by decide) ?_
                  refine lv_goto (tgt := 126) hx hb dX6_read_82 (by decide) ?_
                  exact hJ126 (1 : Int32) hm _ _ hP6 hD6 hS6 _ (lv_sub hl5 [0, 1, 2, 3, 4, 6, 7] rfl)
        exact hL56 n56 ((0 : Int32), (0 : Int32), (0 : Int32), y44) r56 hn56 hm _ _ hP1 hD1 hS1 _ (lv_sub hl4 [3, 4, 5, 6, 7, 2, 1, 0] rfl)
      · replace hm := tp hm c34
        refine lv_iconst (v := (-1 : Int32)) hx hb dX6_read_37 (by decide) ?_
        exact eWi (Wf := fun (uu : SV) => wX6 q a uu) (u := v) X hr hlocks hP0 hD0 hS0 hm dX6_read_38
noncomputable def m_X6_torn (v : SV) : Option (Int32) :=
  some (v 0 39)
set_option maxHeartbeats 4000000 in
set_option maxRecDepth 100000 in
theorem c_X6_torn (l : Launch) (D : va_G) (q : Nat → ClassId) (a : Nat → Nat) (v : SV) (res : Int32) (hm : m_X6_torn v = some res) : Met l yX6_torn (mw yX6_torn cX6_torn 1 (some .int)) ({ frames := 0, cells := 0, slots := 0, locals := 0 } : Room) (pcR D q (wX6 q a v) [.ref (a 99)]) (vp_Si (fun x => x = res)) 0 0 (fun _ => False) := by
  refine Met.ofW (cc := cX6_torn) (maxL := 1) (ret := (some .int)) (by decide) rfl ?_
  intro p e s m args below meth c s₁ B hml hv
  obtain ⟨rfl, hP0, hK⟩ := hv
  have hx := B.exec
  have hb := B.bytes
  have hr := B.returns
  have hW := mw_ws (atoms_spec (ws := mw yX6_torn cX6_torn 1 (some .int)) B.pre)
  have hown : s.vm.findClass RX6 = some m.cls := findClass_of_methodNamed B.named
  have hlocks := B.notSynchronized
  have X : Cx p s m [.ref (a 99)].toArray c cX6_torn 1 RX6 D q := ⟨hx, hb, hml, hown, hW, hK⟩
  have hl0 := lv_entry ([.ref (a 99)]) (n := 1) (Nat.le_of_ble_eq_true rfl)
  rw [lg_entry_eq]
  generalize (lg_sl ([.ref (a 99)]) ++ List.replicate (1 - (lg_sl ([.ref (a 99)])).length) Slot.unset).toArray = ls0 at hl0 ⊢
  have hl0 : lv_has ls0 1 [(0, .ref (a 99))] := hl0
  unfold m_X6_torn at hm
  refine lv_aload_n hx hb dX6_torn_0 rfl (lv_at hl0 0 rfl) ?_
  refine va_get (D := D) (ci := 6) (v := .int (v 0 39)) (C := RX6) (T := TX6) (N := 40) hx hb hW iX6 hown hK hP0 0 rfl rfl 39 (by decide) (hW _ k_906) (fun _ h => h) rfl dX6_torn_1 ?_
  exact eRi  X hr hlocks hm dX6_torn_4
noncomputable def m_X6_count_K7 (v : SV) (x1 : Int32) (z7 : Int32 × Int32 × Int32) : Option (Int32) :=
  (if x1 = (0 : Int32) then some (v 0 32) else (if x1 = (1 : Int32) then (if (v 35 (Int32.toNatClampNeg (0 : Int32))) = 0 then (if (v 35 (Int32.toNatClampNeg (1 : Int32))) = 0 then some ((0 : Int32) + (0 : Int32)) else some ((0 : Int32) + (1 : Int32))) else (if (v 35 (Int32.toNatClampNeg (1 : Int32))) = 0 then some ((1 : Int32) + (0 : Int32)) else some ((1 : Int32) + (1 : Int32)))) else (if x1 = (2 : Int32) then some (v 0 19) else (if x1 = (3 : Int32) then (if (v 36 (Int32.toNatClampNeg (0 : Int32))) = (-4 : Int32) then some (-4 : Int32) else some (v 37 (Int32.toNatClampNeg (0 : Int32)))) else (if x1 = (4 : Int32) then some z7.1 else (if x1 = (5 : Int32) then (m_X6_likeBondsOn v (0 : Int32)).bind (fun y155 => some y155) else (if x1 = (6 : Int32) then some z7.2.1 else some (-1 : Int32))))))))
noncomputable def m_X6_count_L7 (v : SV) (z7 : Int32 × Int32 × Int32) : Option ((Int32 × Int32 × Int32) ⊕ (Int32 × Int32 × Int32)) :=
  (if (v 0 1) ≤ z7.2.2 then some (.inr (z7.1, z7.2.1, z7.2.2)) else ck (inB ((6 : Int32) + z7.2.2) 315) ((m_X6_worthOf v z7.2.2).bind (fun y33 => some (.inl ((z7.1 + (v 50 ((((6 : Int32) + z7.2.2)).toNatClampNeg))), (z7.2.1 + y33), (z7.2.2 + (1 : Int32)))))))
noncomputable def m_X6_count (v : SV) (x1 : Int32) : Option (Int32) :=
  (lpC (m_X6_count_L7 v) ((0 : Int32), (0 : Int32), (0 : Int32))).bind (m_X6_count_K7 v x1)
set_option maxHeartbeats 4000000 in
set_option maxRecDepth 100000 in
theorem c_X6_count (l : Launch) (D : va_G) (q : Nat → ClassId) (a : Nat → Nat) (v : SV) (x1 : Int32) (res : Int32) (hm : m_X6_count v x1 = some res) : Met l yX6_count (mw yX6_count cX6_count 5 (some .int)) ({ frames := 5, cells := 0, slots := 0, locals := 119 } : Room) (pcR D q (wX6 q a v) [.ref (a 99), .int x1]) (vp_Si (fun x => x = res)) 0 0 (fun _ => False) := by
  refine Met.ofW (cc := cX6_count) (maxL := 5) (ret := (some .int)) (by decide) rfl ?_
  intro p e s m args below meth c s₁ B hml hv
  obtain ⟨rfl, hP0, hK⟩ := hv
  have hx := B.exec
  have hb := B.bytes
  have hr := B.returns
  have hW := mw_ws (atoms_spec (ws := mw yX6_count cX6_count 5 (some .int)) B.pre)
  have hown : s.vm.findClass RX6 = some m.cls := findClass_of_methodNamed B.named
  have hlocks := B.notSynchronized
  have X : Cx p s m [.ref (a 99), .int x1].toArray c cX6_count 5 RX6 D q := ⟨hx, hb, hml, hown, hW, hK⟩
  have hl0 := lv_entry ([.ref (a 99), .int x1]) (n := 5) (Nat.le_of_ble_eq_true rfl)
  rw [lg_entry_eq]
  generalize (lg_sl ([.ref (a 99), .int x1]) ++ List.replicate (5 - (lg_sl ([.ref (a 99), .int x1])).length) Slot.unset).toArray = ls0 at hl0 ⊢
  have hl0 : lv_has ls0 5 [(0, .ref (a 99)), (1, .int x1)] := hl0
  unfold m_X6_count at hm
  refine lv_iconst (v := (0 : Int32)) hx hb dX6_count_0 (by decide) ?_
  refine lv_istore_n (lv' := [(2, .int (0 : Int32)), (0, .ref (a 99)), (1, .int x1)]) hx hb dX6_count_1 rfl hl0 (by decide) rfl (fun ls1 hl1 => ?_)
  clear hl0
  refine lv_iconst (v := (0 : Int32)) hx hb dX6_count_2 (by decide) ?_
  refine lv_istore_n (lv' := [(3, .int (0 : Int32)), (2, .int (0 : Int32)), (0, .ref (a 99)), (1, .int x1)]) hx hb dX6_count_3 rfl hl1 (by decide) rfl (fun ls2 hl2 => ?_)
  clear hl1
  refine lv_iconst (v := (0 : Int32)) hx hb dX6_count_4 (by decide) ?_
  refine lv_istore (lv' := [(4, .int (0 : Int32)), (3, .int (0 : Int32)), (2, .int (0 : Int32)), (0, .ref (a 99)), (1, .int x1)]) hx hb dX6_count_5 hl2 (by decide) rfl (fun ls3 hl3 => ?_)
  clear hl2
  obtain ⟨r7, hr7, hm⟩ := bn hm
  obtain ⟨n7, hn7⟩ := lpC_ex hr7
  have hE7 : ∀ z7 : Int32 × Int32 × Int32, m_X6_count_K7 v x1 z7 = some res → ∀ ls : Array Slot, lv_has ls 5 [(0, .ref (a 99)), (1, .int x1), (2, .int z7.1), (3, .int z7.2.1)] → W p l e ((headSpec (mw yX6_count cX6_count 5 (some .int)) ({ frames := 5, cells := 0, slots := 0, locals := 119 } : Room)).room) s m [.ref (a 99), .int x1].toArray below meth c s.heap [] 0 0 (MQ below (vp_Si (fun x => x = res)) [.ref (a 99), .int x1].toArray s 0 0 (fun _ => False)) (F0 m 44 ls []) := by
    intro z7 hm ls5 hl5
    unfold m_X6_count_K7 at hm
    refine lv_iload_n hx hb dX6_count_44 rfl (lv_at hl5 1 rfl) ?_
    by_cases c45_0 : x1 = (0 : Int32)
    · replace hm := tp hm c45_0
      refine lv_tableIn (off := 43) (tgt := 88) hx hb dX6_count_45 (by rw [c45_0]; decide) (by rw [c45_0]; decide) (by rw [c45_0]; rfl) (by decide) ?_
      refine lv_aload_n hx hb dX6_count_88 rfl (lv_at hl5 0 rfl) ?_
      refine va_get (D := D) (ci := 6) (v := .int (v 0 32)) (C := RX6) (T := TX6) (N := 40) hx hb hW iX6 hown hK hP0 0 rfl rfl 32 (by decide) (hW _ k_899) (fun _ h => h) rfl dX6_count_89 ?_
      exact eRi  X hr hlocks hm dX6_count_92
    · replace hm := tn hm c45_0
      by_cases c45_1 : x1 = (1 : Int32)
      · replace hm := tp hm c45_1
        refine lv_tableIn (off := 48) (tgt := 93) hx hb dX6_count_45 (by rw [c45_1]; decide) (by rw [c45_1]; decide) (by rw [c45_1]; rfl) (by decide) ?_
        refine lv_aload_n hx hb dX6_count_93 rfl (lv_at hl5 0 rfl) ?_
        refine va_get (D := D) (ci := 6) (v := .ref (a 35)) (C := RX6) (T := TX6) (N := 40) hx hb hW iX6 hown hK hP0 0 rfl rfl 35 (by decide) (hW _ k_902) (fun _ h => h) rfl dX6_count_94 ?_
        refine lv_iconst (v := (0 : Int32)) hx hb dX6_count_97 (by decide) ?_
        refine va_zald (f := (v 35)) hx hb hK hP0 14 2 rfl rfl (inB_vp (by decide)) dX6_count_98 ?_
        refine lv_if_eq (tgt := 106) hx hb dX6_count_99 (by decide) (fun c99 => ?_) (fun c99 => ?_)
        · replace hm := tp hm c99
          refine lv_iconst (v := (0 : Int32)) hx hb dX6_count_106 (by decide) ?_
          refine lv_aload_n hx hb dX6_count_107 rfl (lv_at hl5 0 rfl) ?_
          refine va_get (D := D) (ci := 6) (v := .ref (a 35)) (C := RX6) (T := TX6) (N := 40) hx hb hW iX6 hown hK hP0 0 rfl rfl 35 (by decide) (hW _ k_902) (fun _ h => h) rfl dX6_count_108 ?_
          refine lv_iconst (v := (1 : Int32)) hx hb dX6_count_111 (by decide) ?_
          refine va_zald (f := (v 35)) hx hb hK hP0 14 2 rfl rfl (inB_vp (by decide)) dX6_count_112 ?_
          refine lv_if_eq (tgt := 120) hx hb dX6_count_113 (by decide) (fun c113 => ?_) (fun c113 => ?_)
          · replace hm := tp hm c113
            refine lv_iconst (v := (0 : Int32)) hx hb dX6_count_120 (by decide) ?_
            refine lv_iadd hx hb dX6_count_121 ?_
            exact eRi  X hr hlocks hm dX6_count_122
          · replace hm := tn hm c113
            refine lv_iconst (v := (1 : Int32)) hx hb dX6_count_116 (by decide) ?_
            refine lv_goto (tgt := 121) hx hb dX6_count_117 (by decide) ?_
            refine lv_iadd hx hb dX6_count_121 ?_
            exact eRi  X hr hlocks hm dX6_count_122
        · replace hm := tn hm c99
          refine lv_iconst (v := (1 : Int32)) hx hb dX6_count_102 (by decide) ?_
          refine lv_goto (tgt := 107) hx hb dX6_count_103 (by decide) ?_
          refine lv_aload_n hx hb dX6_count_107 rfl (lv_at hl5 0 rfl) ?_
          refine va_get (D := D) (ci := 6) (v := .ref (a 35)) (C := RX6) (T := TX6) (N := 40) hx hb hW iX6 hown hK hP0 0 rfl rfl 35 (by decide) (hW _ k_902) (fun _ h => h) rfl dX6_count_108 ?_
          refine lv_iconst (v := (1 : Int32)) hx hb dX6_count_111 (by decide) ?_
          refine va_zald (f := (v 35)) hx hb hK hP0 14 2 rfl rfl (inB_vp (by decide)) dX6_count_112 ?_
          refine lv_if_eq (tgt := 120) hx hb dX6_count_113 (by decide) (fun c113 => ?_) (fun c113 => ?_)
          · replace hm := tp hm c113
            refine lv_iconst (v := (0 : Int32)) hx hb dX6_count_120 (by decide) ?_
            refine lv_iadd hx hb dX6_count_121 ?_
            exact eRi  X hr hlocks hm dX6_count_122
          · replace hm := tn hm c113
            refine lv_iconst (v := (1 : Int32)) hx hb dX6_count_116 (by decide) ?_
            refine lv_goto (tgt := 121) hx hb dX6_count_117 (by decide) ?_
            refine lv_iadd hx hb dX6_count_121 ?_
            exact eRi  X hr hlocks hm dX6_count_122
      · replace hm := tn hm c45_1
        by_cases c45_2 : x1 = (2 : Int32)
        · replace hm := tp hm c45_2
          refine lv_tableIn (off := 78) (tgt := 123) hx hb dX6_count_45 (by rw [c45_2]; decide) (by rw [c45_2]; decide) (by rw [c45_2]; rfl) (by decide) ?_
          refine lv_aload_n hx hb dX6_count_123 rfl (lv_at hl5 0 rfl) ?_
          refine va_get (D := D) (ci := 6) (v := .int (v 0 19)) (C := RX6) (T := TX6) (N := 40) hx hb hW iX6 hown hK hP0 0 rfl rfl 19 (by decide) (hW _ k_886) (fun _ h => h) rfl dX6_count_124 ?_
          exact eRi  X hr hlocks hm dX6_count_127
        · replace hm := tn hm c45_2
          by_cases c45_3 : x1 = (3 : Int32)
          · replace hm := tp hm c45_3
            refine lv_tableIn (off := 83) (tgt := 128) hx hb dX6_count_45 (by rw [c45_3]; decide) (by rw [c45_3]; decide) (by rw [c45_3]; rfl) (by decide) ?_
            refine lv_aload_n hx hb dX6_count_128 rfl (lv_at hl5 0 rfl) ?_
            refine va_get (D := D) (ci := 6) (v := .ref (a 36)) (C := RX6) (T := TX6) (N := 40) hx hb hW iX6 hown hK hP0 0 rfl rfl 36 (by decide) (hW _ k_903) (fun _ h => h) rfl dX6_count_129 ?_
            refine lv_iconst (v := (0 : Int32)) hx hb dX6_count_132 (by decide) ?_
            refine va_iald (f := (v 36)) hx hb hK hP0 15 0 rfl rfl (inB_vp (by decide)) dX6_count_133 ?_
            refine lv_bipush (v := (-4 : Int32)) hx hb dX6_count_134 (by decide) ?_
            refine lv_icmp_ne (tgt := 144) hx hb dX6_count_136 (by decide) (fun c136 => ?_) (fun c136 => ?_)
            · replace hm := tn hm c136
              refine lv_aload_n hx hb dX6_count_144 rfl (lv_at hl5 0 rfl) ?_
              refine va_get (D := D) (ci := 6) (v := .ref (a 37)) (C := RX6) (T := TX6) (N := 40) hx hb hW iX6 hown hK hP0 0 rfl rfl 37 (by decide) (hW _ k_904) (fun _ h => h) rfl dX6_count_145 ?_
              refine lv_iconst (v := (0 : Int32)) hx hb dX6_count_148 (by decide) ?_
              refine va_iald (f := (v 37)) hx hb hK hP0 16 0 rfl rfl (inB_vp (by decide)) dX6_count_149 ?_
              exact eRi  X hr hlocks hm dX6_count_150
            · replace hm := tp hm c136
              refine lv_bipush (v := (-4 : Int32)) hx hb dX6_count_139 (by decide) ?_
              refine lv_goto (tgt := 150) hx hb dX6_count_141 (by decide) ?_
              exact eRi  X hr hlocks hm dX6_count_150
          · replace hm := tn hm c45_3
            by_cases c45_4 : x1 = (4 : Int32)
            · replace hm := tp hm c45_4
              refine lv_tableIn (off := 106) (tgt := 151) hx hb dX6_count_45 (by rw [c45_4]; decide) (by rw [c45_4]; decide) (by rw [c45_4]; rfl) (by decide) ?_
              refine lv_iload_n hx hb dX6_count_151 rfl (lv_at hl5 2 rfl) ?_
              exact eRi  X hr hlocks hm dX6_count_152
            · replace hm := tn hm c45_4
              by_cases c45_5 : x1 = (5 : Int32)
              · replace hm := tp hm c45_5
                refine lv_tableIn (off := 108) (tgt := 153) hx hb dX6_count_45 (by rw [c45_5]; decide) (by rw [c45_5]; decide) (by rw [c45_5]; rfl) (by decide) ?_
                refine lv_aload_n hx hb dX6_count_153 rfl (lv_at hl5 0 rfl) ?_
                refine lv_iconst (v := (0 : Int32)) hx hb dX6_count_154 (by decide) ?_
                obtain ⟨y155, hy155, hm⟩ := bn hm
                refine cVRi (As := [.int (0 : Int32)]) (rest := []) X hP0 hl5.1 (c_X6_likeBondsOn l D q a v (0 : Int32) y155 hy155) [0, 1, 2, 3, 4, 5, 6, 7, 8, 9, 10, 11, 12, 13, 14, 15, 16, 17] rfl 0 rfl rfl rfl k_1225 mX6_likeBondsOn ⟨rfl, rfl⟩ ⟨Nat.le_of_ble_eq_true rfl, Nat.le_of_ble_eq_true rfl⟩ rfl rfl (Nat.le_of_ble_eq_true rfl) dX6_count_155 ⟨Nat.zero_le _, Nat.zero_le _⟩ ?_
                exact eRi  X hr hlocks hm dX6_count_158
              · replace hm := tn hm c45_5
                by_cases c45_6 : x1 = (6 : Int32)
                · replace hm := tp hm c45_6
                  refine lv_tableIn (off := 114) (tgt := 159) hx hb dX6_count_45 (by rw [c45_6]; decide) (by rw [c45_6]; decide) (by rw [c45_6]; rfl) (by decide) ?_
                  refine lv_iload_n hx hb dX6_count_159 rfl (lv_at hl5 3 rfl) ?_
                  exact eRi  X hr hlocks hm dX6_count_160
                · replace hm := tn hm c45_6
                  have hk45 : x1.toInt < 0 ∨ 6 < x1.toInt := by
                    have g0 := lv_neT c45_0 (show ((0 : Int32)).toInt = 0 from rfl)
                    have g1 := lv_neT c45_1 (show ((1 : Int32)).toInt = 1 from rfl)
                    have g2 := lv_neT c45_2 (show ((2 : Int32)).toInt = 2 from rfl)
                    have g3 := lv_neT c45_3 (show ((3 : Int32)).toInt = 3 from rfl)
                    have g4 := lv_neT c45_4 (show ((4 : Int32)).toInt = 4 from rfl)
                    have g5 := lv_neT c45_5 (show ((5 : Int32)).toInt = 5 from rfl)
                    have g6 := lv_neT c45_6 (show ((6 : Int32)).toInt = 6 from rfl)
                    omega
                  refine lv_tableOut (tgt := 161) hx hb dX6_count_45 hk45 (by decide) ?_
                  refine lv_iconst (v := (-1 : Int32)) hx hb dX6_count_161 (by decide) ?_
                  exact eRi  X hr hlocks hm dX6_count_162
  have hL7 : ∀ (n : Nat) (z7 : Int32 × Int32 × Int32) (ρ7 : Int32 × Int32 × Int32), lpO (m_X6_count_L7 v) n z7 = some ρ7 → (m_X6_count_K7 v x1) ρ7 = some res → ∀ ls : Array Slot, lv_has ls 5 [(0, .ref (a 99)), (1, .int x1), (2, .int z7.1), (3, .int z7.2.1), (4, .int z7.2.2)] → W p l e ((headSpec (mw yX6_count cX6_count 5 (some .int)) ({ frames := 5, cells := 0, slots := 0, locals := 119 } : Room)).room) s m [.ref (a 99), .int x1].toArray below meth c s.heap [] 0 0 (MQ below (vp_Si (fun x => x = res)) [.ref (a 99), .int x1].toArray s 0 0 (fun _ => False)) (F0 m 7 ls []) := by
    intro n
    induction n with
    | zero => intro _ _ h; cases h
    | succ n ih7 =>
      intro z7 ρ7 hz7 hK7 ls4 hl4
      obtain ⟨t7, hm, hz7⟩ := bn hz7
      unfold m_X6_count_L7 at hm
      refine lv_iload hx hb dX6_count_7 (lv_at hl4 4 rfl) ?_
      refine lv_aload_n hx hb dX6_count_9 rfl (lv_at hl4 0 rfl) ?_
      refine va_get (D := D) (ci := 6) (v := .int (v 0 1)) (C := RX6) (T := TX6) (N := 40) hx hb hW iX6 hown hK hP0 0 rfl rfl 1 (by decide) (hW _ k_868) (fun _ h => h) rfl dX6_count_10 ?_
      refine lv_icmp_ge (tgt := 44) hx hb dX6_count_13 (by decide) (fun c13 => ?_) (fun c13 => ?_)
      · replace hm := tp hm c13
        cases hm
        cases hz7
        exact hE7 (z7.1, z7.2.1, z7.2.2) hK7 _ (lv_sub hl4 [0, 1, 2, 3] rfl)
      · replace hm := tn hm c13
        refine lv_iload_n hx hb dX6_count_16 rfl (lv_at hl4 2 rfl) ?_
        refine lv_aload_n hx hb dX6_count_17 rfl (lv_at hl4 0 rfl) ?_
        refine va_get (D := D) (ci := 6) (v := .ref (a 0)) (C := RX6) (T := TX6) (N := 40) hx hb hW iX6 hown hK hP0 0 rfl rfl 0 (by decide) (hW _ k_867) (fun _ h => h) rfl dX6_count_18 ?_
        refine lv_bipush (v := (6 : Int32)) hx hb dX6_count_21 (by decide) ?_
        refine lv_iload hx hb dX6_count_23 (lv_at hl4 4 rfl) ?_
        refine lv_iadd hx hb dX6_count_25 ?_
        obtain ⟨h6, hm⟩ := ckd hm
        refine va_iald (f := (v 50)) hx hb hK hP0 1 0 rfl rfl (inB_vp h6) dX6_count_26 ?_
        refine lv_iadd hx hb dX6_count_27 ?_
        refine lv_istore_n (lv' := [(2, .int (z7.1 + (v 50 ((((6 : Int32) + z7.2.2)).toNatClampNeg)))), (0, .ref (a 99)), (1, .int x1), (3, .int z7.2.1), (4, .int z7.2.2)]) hx hb dX6_count_28 rfl hl4 (by decide) rfl (fun ls7 hl7 => ?_)
        clear hl4
        refine lv_iload_n hx hb dX6_count_29 rfl (lv_at hl7 3 rfl) ?_
        refine lv_aload_n hx hb dX6_count_30 rfl (lv_at hl7 1 rfl) ?_
        refine lv_iload hx hb dX6_count_31 (lv_at hl7 4 rfl) ?_
        obtain ⟨y33, hy33, hm⟩ := bn hm
        refine cVRi (As := [.int z7.2.2]) (rest := [.int z7.2.1]) X hP0 hl7.1 (c_X6_worthOf l D q a v z7.2.2 y33 hy33) [0, 1, 2, 3, 4, 5, 6, 7, 8, 9, 10, 11, 12, 13, 14, 15, 16, 17] rfl 0 rfl rfl rfl k_1090 mX6_worthOf ⟨rfl, rfl⟩ ⟨Nat.le_of_ble_eq_true rfl, Nat.le_of_ble_eq_true rfl⟩ rfl rfl (Nat.le_of_ble_eq_true rfl) dX6_count_33 ⟨Nat.zero_le _, Nat.zero_le _⟩ ?_
        refine lv_iadd hx hb dX6_count_36 ?_
        refine lv_istore_n (lv' := [(3, .int (z7.2.1 + y33)), (2, .int (z7.1 + (v 50 ((((6 : Int32) + z7.2.2)).toNatClampNeg)))), (0, .ref (a 99)), (1, .int x1), (4, .int z7.2.2)]) hx hb dX6_count_37 rfl hl7 (by decide) rfl (fun ls8 hl8 => ?_)
        clear hl7
        refine lv_iinc (v := (z7.2.2 + (1 : Int32))) (lv' := [(4, .int (z7.2.2 + (1 : Int32))), (3, .int (z7.2.1 + y33)), (2, .int (z7.1 + (v 50 ((((6 : Int32) + z7.2.2)).toNatClampNeg)))), (0, .ref (a 99)), (1, .int x1)]) hx hb dX6_count_38 hl8 (k := 4) rfl rfl (by decide) rfl (fun ls9 hl9 => ?_)
        clear hl8
        refine lv_goto (tgt := 7) hx hb dX6_count_41 (by decide) ?_
        cases hm
        exact ih7 ((z7.1 + (v 50 ((((6 : Int32) + z7.2.2)).toNatClampNeg))), (z7.2.1 + y33), (z7.2.2 + (1 : Int32))) ρ7 hz7 hK7 _ (lv_sub hl9 [3, 4, 2, 1, 0] rfl)
  exact hL7 n7 ((0 : Int32), (0 : Int32), (0 : Int32)) r7 hn7 hm _ (lv_sub hl3 [3, 4, 2, 1, 0] rfl)
