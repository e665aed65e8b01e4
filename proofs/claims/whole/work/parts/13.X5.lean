noncomputable def m_X5_within (x1 : Int32) (x2 : Int32) (x3 : Int32) : Option (Int32) :=
  (if x1 < x2 then some (0 : Int32) else (if x3 < x1 then some (0 : Int32) else some (1 : Int32)))
set_option maxHeartbeats 4000000 in
set_option maxRecDepth 100000 in
theorem c_X5_within (l : Launch) (D : va_G) (q : Nat → ClassId) (x1 : Int32) (x2 : Int32) (x3 : Int32) (res : Int32) (hm : m_X5_within x1 x2 x3 = some res) : Met l yX5_within (mw yX5_within cX5_within 3 (some .boolean)) ({ frames := 0, cells := 0, slots := 0, locals := 0 } : Room) (pcR D q ([]) [.int x1, .int x2, .int x3]) (vp_Si (fun x => x = res)) 0 0 (fun _ => False) := by
  refine Met.ofW (cc := cX5_within) (maxL := 3) (ret := (some .boolean)) (by decide) rfl ?_
  intro p e s m args below meth c s₁ B hml hv
  obtain ⟨rfl, hP0, hK⟩ := hv
  have hx := B.exec
  have hb := B.bytes
  have hr := B.returns
  have hW := mw_ws (atoms_spec (ws := mw yX5_within cX5_within 3 (some .boolean)) B.pre)
  have hown : s.vm.findClass RX5 = some m.cls := findClass_of_methodNamed B.named
  have hlocks := B.notSynchronized
  have X : Cx p s m [.int x1, .int x2, .int x3].toArray c cX5_within 3 RX5 D q := ⟨hx, hb, hml, hown, hW, hK⟩
  have hl0 := lv_entry ([.int x1, .int x2, .int x3]) (n := 3) (Nat.le_of_ble_eq_true rfl)
  rw [lg_entry_eq]
  generalize (lg_sl ([.int x1, .int x2, .int x3]) ++ List.replicate (3 - (lg_sl ([.int x1, .int x2, .int x3])).length) Slot.unset).toArray = ls0 at hl0 ⊢
  have hl0 : lv_has ls0 3 [(0, .int x1), (1, .int x2), (2, .int x3)] := hl0
  unfold m_X5_within at hm
  refine lv_iload_n hx hb dX5_within_0 rfl (lv_at hl0 0 rfl) ?_
  refine lv_iload_n hx hb dX5_within_1 rfl (lv_at hl0 1 rfl) ?_
  refine lv_icmp_lt (tgt := 14) hx hb dX5_within_2 (by decide) (fun c2 => ?_) (fun c2 => ?_)
  · replace hm := tp hm c2
    refine lv_iconst (v := (0 : Int32)) hx hb dX5_within_14 (by decide) ?_
    exact eRz  X hr hlocks rfl hm dX5_within_15
  · replace hm := tn hm c2
    refine lv_iload_n hx hb dX5_within_5 rfl (lv_at hl0 0 rfl) ?_
    refine lv_iload_n hx hb dX5_within_6 rfl (lv_at hl0 2 rfl) ?_
    refine lv_icmp_gt (tgt := 14) hx hb dX5_within_7 (by decide) (fun c7 => ?_) (fun c7 => ?_)
    · replace hm := tp hm c7
      refine lv_iconst (v := (0 : Int32)) hx hb dX5_within_14 (by decide) ?_
      exact eRz  X hr hlocks rfl hm dX5_within_15
    · replace hm := tn hm c7
      refine lv_iconst (v := (1 : Int32)) hx hb dX5_within_10 (by decide) ?_
      refine lv_goto (tgt := 15) hx hb dX5_within_11 (by decide) ?_
      exact eRz  X hr hlocks rfl hm dX5_within_15
noncomputable def m_X5_feed (v0 : SV) (v5 : SV) (v6 : SV) (x1 : Int32) : Option (Int32 × SV) :=
  (m_X5_within x1 (0 : Int32) (127 : Int32)).bind (fun y4 => (if y4 = 0 then some ((-1 : Int32), v5) else (m_X0_take v5 v6 x1).bind (fun y17 => (if y17.1 = 0 then some ((-3 : Int32), y17.2) else some ((y17.2 0 1), y17.2)))))
set_option maxHeartbeats 4000000 in
set_option maxRecDepth 100000 in
theorem c_X5_feed (l : Launch) (D : va_G) (q : Nat → ClassId) (sz : Nat) (ad : Nat → Nat → Nat) (v0 : SV) (v5 : SV) (v6 : SV) (x1 : Int32) (res : Int32 × SV) (hm : m_X5_feed v0 v5 v6 x1 = some res) : Met l yX5_feed (mw yX5_feed cX5_feed 2 (some .int)) ({ frames := 1, cells := 0, slots := 0, locals := 22 } : Room) (pcW D q (wX5 q ad v0 ++ (wX0 q (ad 5) v5 (ad 6 99) ++ wX3 q (ad 6) v6)) sz [.ref (ad 0 99), .int x1]) (va_Qi (fun r w => r = res.1 ∧ w = res.2) (bW D q (wX5 q ad v0 ++ (wX0 q (ad 5) v5 (ad 6 99) ++ wX3 q (ad 6) v6)) sz (fun (uu : SV) => wX5 q ad v0 ++ (wX0 q (ad 5) uu (ad 6 99) ++ wX3 q (ad 6) v6))) (va_A (wX5 q ad v0 ++ (wX0 q (ad 5) v5 (ad 6 99) ++ wX3 q (ad 6) v6)) sz)) 0 0 (va_A (wX5 q ad v0 ++ (wX0 q (ad 5) v5 (ad 6 99) ++ wX3 q (ad 6) v6)) sz) := by
  refine Met.ofW (cc := cX5_feed) (maxL := 2) (ret := (some .int)) (by decide) rfl ?_
  intro p e s m args below meth c s₁ B hml hv
  obtain ⟨rfl, hsz, hP0, hK, hD0⟩ := hv
  have hx := B.exec
  have hb := B.bytes
  have hr := B.returns
  have hW := mw_ws (atoms_spec (ws := mw yX5_feed cX5_feed 2 (some .int)) B.pre)
  have hown : s.vm.findClass RX5 = some m.cls := findClass_of_methodNamed B.named
  have hlocks := B.notSynchronized
  have X : Cx p s m [.ref (ad 0 99), .int x1].toArray c cX5_feed 2 RX5 D q := ⟨hx, hb, hml, hown, hW, hK⟩
  subst hsz
  replace hD0 := hD0.self (sz := s.heap.size)
  have hS0 : va_S (va_A (wX5 q ad v0 ++ (wX0 q (ad 5) v5 (ad 6 99) ++ wX3 q (ad 6) v6)) s.heap.size) s.heap s.heap [] := va_S.rf
  have hl0 := lv_entry ([.ref (ad 0 99), .int x1]) (n := 2) (Nat.le_of_ble_eq_true rfl)
  rw [lg_entry_eq]
  generalize (lg_sl ([.ref (ad 0 99), .int x1]) ++ List.replicate (2 - (lg_sl ([.ref (ad 0 99), .int x1])).length) Slot.unset).toArray = ls0 at hl0 ⊢
  have hl0 : lv_has ls0 2 [(0, .ref (ad 0 99)), (1, .int x1)] := hl0
  unfold m_X5_feed at hm
  refine lv_iload_n hx hb dX5_feed_0 rfl (lv_at hl0 1 rfl) ?_
  refine lv_iconst (v := (0 : Int32)) hx hb dX5_feed_1 (by decide) ?_
  refine lv_bipush (v := (127 : Int32)) hx hb dX5_feed_2 (by decide) ?_
  obtain ⟨y4, hy4, hm⟩ := bn hm
  refine cSRi (As := [.int x1, .int (0 : Int32), .int (127 : Int32)]) (rest := []) X hP0 hl0.1 (c_X5_within l D q x1 (0 : Int32) (127 : Int32) y4 hy4) [] rfl k_346 mX5_within ⟨rfl, rfl⟩ ⟨Nat.le_of_ble_eq_true rfl, Nat.le_of_ble_eq_true rfl⟩ rfl rfl (Nat.le_of_ble_eq_true rfl) dX5_feed_4 ⟨Nat.zero_le _, Nat.zero_le _⟩ ?_
  refine lv_if_ne (tgt := 12) hx hb dX5_feed_7 (by decide) (fun c7 => ?_) (fun c7 => ?_)
  · replace hm := tn hm c7
    refine lv_aload_n hx hb dX5_feed_12 rfl (lv_at hl0 0 rfl) ?_
    refine va_get (D := D) (ci := 5) (v := .ref (ad 5 99)) (C := RX5) (T := TX5) (N := 11) hx hb hW iX5 hown hK hP0 0 rfl rfl 0 (by decide) (hW _ k_308) (fun _ h => h) rfl dX5_feed_13 ?_
    refine lv_iload_n hx hb dX5_feed_16 rfl (lv_at hl0 1 rfl) ?_
    obtain ⟨y17, hy17, hm⟩ := bn hm
    refine cVWi (As := [.int x1]) (rest := []) (Wn := fun (uu : SV) => wX5 q ad v0 ++ (wX0 q (ad 5) uu (ad 6 99) ++ wX3 q (ad 6) v6)) X hP0 hD0 hS0 (fun _ h => Or.inr h) hl0.1 (c_X0_take l D q s.heap.size (ad 5) v5 (ad 6) v6 x1 y17 hy17) [6, 7, 8, 9, 10, 11, 12, 13, 14, 15, 16, 17, 18, 19] [0, 1, 2, 3, 4, 5] [0, 1, 2, 3, 4, 5, 6, 7, 8, 9, 10, 11, 12, 13, 14, 15, 16, 17, 18, 19] rfl (Wr := wX5 q ad v0) rfl (by decide) (by decide) (by decide) (by decide) (fun _ => rfl) 6 rfl rfl rfl k_349 mX0_take ⟨rfl, rfl⟩ ⟨Nat.le_of_ble_eq_true rfl, Nat.le_of_ble_eq_true rfl⟩ rfl rfl (Nat.le_of_ble_eq_true rfl) dX5_feed_17 ⟨Nat.zero_le _, Nat.zero_le _⟩ (fun H1 locs1 hP hD hS1 => ?_)
    have hP1 : va_P D cls (wX5 q ad v0 ++ (wX0 q (ad 5) y17.2 (ad 6 99) ++ wX3 q (ad 6) v6)) H1 := hP
    have hD1 : va_D (va_A (wX5 q ad v0 ++ (wX0 q (ad 5) v5 (ad 6 99) ++ wX3 q (ad 6) v6)) s.heap.size) (wX5 q ad v0 ++ (wX0 q (ad 5) y17.2 (ad 6 99) ++ wX3 q (ad 6) v6)) := hD
    clear hP hD hP0 hD0 hS0
    refine lv_if_eq (tgt := 33) hx hb dX5_feed_20 (by decide) (fun c20 => ?_) (fun c20 => ?_)
    · replace hm := tp hm c20
      refine lv_bipush (v := (-3 : Int32)) hx hb dX5_feed_33 (by decide) ?_
      exact eWi (Wf := fun (uu : SV) => wX5 q ad v0 ++ (wX0 q (ad 5) uu (ad 6 99) ++ wX3 q (ad 6) v6)) (u := y17.2) X hr hlocks hP1 hD1 hS1 hm dX5_feed_35
    · replace hm := tn hm c20
      refine lv_aload_n hx hb dX5_feed_23 rfl (lv_at hl0 0 rfl) ?_
      refine va_get (D := D) (ci := 5) (v := .ref (ad 5 99)) (C := RX5) (T := TX5) (N := 11) hx hb hW iX5 hown hK hP1 0 rfl rfl 0 (by decide) (hW _ k_308) (fun _ h => h) rfl dX5_feed_24 ?_
      refine va_get (D := D) (ci := 0) (v := .int (y17.2 0 1)) (C := RX0) (T := TX0) (N := 13) hx hb hW iX0 hown hK hP1 6 rfl rfl 1 (by decide) (hW _ k_176) (fun _ h => h) rfl dX5_feed_27 ?_
      refine lv_goto (tgt := 35) hx hb dX5_feed_30 (by decide) ?_
      exact eWi (Wf := fun (uu : SV) => wX5 q ad v0 ++ (wX0 q (ad 5) uu (ad 6 99) ++ wX3 q (ad 6) v6)) (u := y17.2) X hr hlocks hP1 hD1 hS1 hm dX5_feed_35
  · replace hm := tp hm c7
    refine lv_iconst (v := (-1 : Int32)) hx hb dX5_feed_10 (by decide) ?_
    exact eWi (Wf := fun (uu : SV) => wX5 q ad v0 ++ (wX0 q (ad 5) uu (ad 6 99) ++ wX3 q (ad 6) v6)) (u := v5) X hr hlocks hP0 hD0 hS0 hm dX5_feed_11
noncomputable def m_X5_end (v0 : SV) (v5 : SV) (v6 : SV) (x1 : Int32) : Option (Int32 × SV) :=
  (m_X5_within x1 (0 : Int32) (v5 0 1)).bind (fun y9 => (if y9 = 0 then some ((-1 : Int32), v5) else lett (up2 v5 0 1 x1) (fun v2_ => some ((v5 0 1), v2_))))
set_option maxHeartbeats 4000000 in
set_option maxRecDepth 100000 in
theorem c_X5_end (l : Launch) (D : va_G) (q : Nat → ClassId) (sz : Nat) (ad : Nat → Nat → Nat) (v0 : SV) (v5 : SV) (v6 : SV) (x1 : Int32) (res : Int32 × SV) (hm : m_X5_end v0 v5 v6 x1 = some res) : Met l yX5_end (mw yX5_end cX5_end 3 (some .int)) ({ frames := 1, cells := 0, slots := 0, locals := 22 } : Room) (pcW D q (wX5 q ad v0 ++ (wX0 q (ad 5) v5 (ad 6 99) ++ wX3 q (ad 6) v6)) sz [.ref (ad 0 99), .int x1]) (va_Qi (fun r w => r = res.1 ∧ w = res.2) (bW D q (wX5 q ad v0 ++ (wX0 q (ad 5) v5 (ad 6 99) ++ wX3 q (ad 6) v6)) sz (fun (uu : SV) => wX5 q ad v0 ++ (wX0 q (ad 5) uu (ad 6 99) ++ wX3 q (ad 6) v6))) (va_A (wX5 q ad v0 ++ (wX0 q (ad 5) v5 (ad 6 99) ++ wX3 q (ad 6) v6)) sz)) 0 0 (va_A (wX5 q ad v0 ++ (wX0 q (ad 5) v5 (ad 6 99) ++ wX3 q (ad 6) v6)) sz) := by
  refine Met.ofW (cc := cX5_end) (maxL := 3) (ret := (some .int)) (by decide) rfl ?_
  intro p e s m args below meth c s₁ B hml hv
  obtain ⟨rfl, hsz, hP0, hK, hD0⟩ := hv
  have hx := B.exec
  have hb := B.bytes
  have hr := B.returns
  have hW := mw_ws (atoms_spec (ws := mw yX5_end cX5_end 3 (some .int)) B.pre)
  have hown : s.vm.findClass RX5 = some m.cls := findClass_of_methodNamed B.named
  have hlocks := B.notSynchronized
  have X : Cx p s m [.ref (ad 0 99), .int x1].toArray c cX5_end 3 RX5 D q := ⟨hx, hb, hml, hown, hW, hK⟩
  subst hsz
  replace hD0 := hD0.self (sz := s.heap.size)
  have hS0 : va_S (va_A (wX5 q ad v0 ++ (wX0 q (ad 5) v5 (ad 6 99) ++ wX3 q (ad 6) v6)) s.heap.size) s.heap s.heap [] := va_S.rf
  have hl0 := lv_entry ([.ref (ad 0 99), .int x1]) (n := 3) (Nat.le_of_ble_eq_true rfl)
  rw [lg_entry_eq]
  generalize (lg_sl ([.ref (ad 0 99), .int x1]) ++ List.replicate (3 - (lg_sl ([.ref (ad 0 99), .int x1])).length) Slot.unset).toArray = ls0 at hl0 ⊢
  have hl0 : lv_has ls0 3 [(0, .ref (ad 0 99)), (1, .int x1)] := hl0
  unfold m_X5_end at hm
  refine lv_iload_n hx hb dX5_end_0 rfl (lv_at hl0 1 rfl) ?_
  refine lv_iconst (v := (0 : Int32)) hx hb dX5_end_1 (by decide) ?_
  refine lv_aload_n hx hb dX5_end_2 rfl (lv_at hl0 0 rfl) ?_
  refine va_get (D := D) (ci := 5) (v := .ref (ad 5 99)) (C := RX5) (T := TX5) (N := 11) hx hb hW iX5 hown hK hP0 0 rfl rfl 0 (by decide) (hW _ k_308) (fun _ h => h) rfl dX5_end_3 ?_
  refine va_get (D := D) (ci := 0) (v := .int (v5 0 1)) (C := RX0) (T := TX0) (N := 13) hx hb hW iX0 hown hK hP0 6 rfl rfl 1 (by decide) (hW _ k_176) (fun _ h => h) rfl dX5_end_6 ?_
  obtain ⟨y9, hy9, hm⟩ := bn hm
  refine cSRi (As := [.int x1, .int (0 : Int32), .int (v5 0 1)]) (rest := []) X hP0 hl0.1 (c_X5_within l D q x1 (0 : Int32) (v5 0 1) y9 hy9) [] rfl k_346 mX5_within ⟨rfl, rfl⟩ ⟨Nat.le_of_ble_eq_true rfl, Nat.le_of_ble_eq_true rfl⟩ rfl rfl (Nat.le_of_ble_eq_true rfl) dX5_end_9 ⟨Nat.zero_le _, Nat.zero_le _⟩ ?_
  refine lv_if_ne (tgt := 17) hx hb dX5_end_12 (by decide) (fun c12 => ?_) (fun c12 => ?_)
  · replace hm := tn hm c12
    refine lv_aload_n hx hb dX5_end_17 rfl (lv_at hl0 0 rfl) ?_
    refine va_get (D := D) (ci := 5) (v := .ref (ad 5 99)) (C := RX5) (T := TX5) (N := 11) hx hb hW iX5 hown hK hP0 0 rfl rfl 0 (by decide) (hW _ k_308) (fun _ h => h) rfl dX5_end_18 ?_
    refine va_get (D := D) (ci := 0) (v := .int (v5 0 1)) (C := RX0) (T := TX0) (N := 13) hx hb hW iX0 hown hK hP0 6 rfl rfl 1 (by decide) (hW _ k_176) (fun _ h => h) rfl dX5_end_21 ?_
    refine lv_istore_n (lv' := [(2, .int (v5 0 1)), (0, .ref (ad 0 99)), (1, .int x1)]) hx hb dX5_end_24 rfl hl0 (by decide) rfl (fun ls1 hl1 => ?_)
    clear hl0
    refine lv_aload_n hx hb dX5_end_25 rfl (lv_at hl1 1 rfl) ?_
    refine va_get (D := D) (ci := 5) (v := .ref (ad 5 99)) (C := RX5) (T := TX5) (N := 11) hx hb hW iX5 hown hK hP0 0 rfl rfl 0 (by decide) (hW _ k_308) (fun _ h => h) rfl dX5_end_26 ?_
    refine lv_iload_n hx hb dX5_end_29 rfl (lv_at hl1 2 rfl) ?_
    refine va_put (D := D) (ci := 0) (v := .int x1) (ty := .int) (C := RX0) (T := TX0) (N := 13) hx hb hW iX0 tyX0 tyX0_ok nmX0 hown hK hP0 hD0 hS0 6 rfl rfl 1 (by decide) (hW _ k_176) (fun _ h => h) rfl (by decide +kernel) rfl rfl (Nat.le_of_ble_eq_true rfl) dX5_end_30 (fun H2 locs2 hP hD hS2 => ?_)
    obtain ⟨v2_, e2, hm⟩ := ltd hm
    have hP2 : va_P D cls (wX5 q ad v0 ++ (wX0 q (ad 5) v2_ (ad 6 99) ++ wX3 q (ad 6) v6)) H2 := by rw [e2]; exact hP
    have hD2 : va_D (va_A (wX5 q ad v0 ++ (wX0 q (ad 5) v5 (ad 6 99) ++ wX3 q (ad 6) v6)) s.heap.size) (wX5 q ad v0 ++ (wX0 q (ad 5) v2_ (ad 6 99) ++ wX3 q (ad 6) v6)) := by rw [e2]; exact hD
    clear hP hD hP0 hD0 hS0
    refine lv_iload_n hx hb dX5_end_33 rfl (lv_at hl1 0 rfl) ?_
    exact eWi (Wf := fun (uu : SV) => wX5 q ad v0 ++ (wX0 q (ad 5) uu (ad 6 99) ++ wX3 q (ad 6) v6)) (u := v2_) X hr hlocks hP2 hD2 hS2 hm dX5_end_34
  · replace hm := tp hm c12
    refine lv_iconst (v := (-1 : Int32)) hx hb dX5_end_15 (by decide) ?_
    exact eWi (Wf := fun (uu : SV) => wX5 q ad v0 ++ (wX0 q (ad 5) uu (ad 6 99) ++ wX3 q (ad 6) v6)) (u := v5) X hr hlocks hP0 hD0 hS0 hm dX5_end_16
noncomputable def m_X5_text_K36 (y4 : Int32 × SV × SV) (y23 : SV) (v4_ : SV) (z36 : Int32 × SV) : Option (Int32 × SV × SV × SV × SV × SV) :=
  some (y4.1, z36.2, y23, y4.2.1, y4.2.2, v4_)
noncomputable def m_X5_text_L36 (z36 : Int32 × SV) : Option ((Int32 × SV) ⊕ (Int32 × SV)) :=
  (if (2 : Int32) ≤ z36.1 then some (.inr (z36.1, z36.2)) else ck (inB z36.1 2) (lett (up2 z36.2 4 ((z36.1).toNatClampNeg) (vp_nar .boolean (0 : Int32))) (fun v11_ => some (.inl ((z36.1 + (1 : Int32)), v11_)))))
noncomputable def m_X5_text (v0 : SV) (v1 : SV) (v5 : SV) (v6 : SV) (v7 : SV) : Option (Int32 × SV × SV × SV × SV × SV) :=
  (m_X0_readText v5 v6).bind (fun y4 => (if y4.1 < 0 then some (y4.1, v0, v1, y4.2.1, y4.2.2, v7) else (m_X3_becomes v1 y4.2.2).bind (fun y23 => lett (up2 v7 0 0 (0 : Int32)) (fun v4_ => (lpC (m_X5_text_L36) ((0 : Int32), v0)).bind (m_X5_text_K36 y4 y23 v4_)))))
set_option maxHeartbeats 4000000 in
set_option maxRecDepth 100000 in
theorem c_X5_text (l : Launch) (D : va_G) (q : Nat → ClassId) (sz : Nat) (aK aV : Nat → Nat) (ad : Nat → Nat → Nat) (v0 : SV) (v1 : SV) (v5 : SV) (v6 : SV) (v7 : SV) (res : Int32 × SV × SV × SV × SV × SV) (hm : m_X5_text v0 v1 v5 v6 v7 = some res) : Met l yX5_text (mw yX5_text cX5_text 3 (some .int)) ({ frames := 8, cells := 0, slots := 0, locals := 172 } : Room) (pcWT D q aK aV (wX5 q ad v0 ++ (wX3 q (ad 1) v1 ++ (wX0 q (ad 5) v5 (ad 6 99) ++ (wX3 q (ad 6) v6 ++ wX1 q (ad 7) v7)))) sz [.ref (ad 0 99)]) (va_Qi (fun r w => r = res.1 ∧ w = res.2) (bW D q (wX5 q ad v0 ++ (wX3 q (ad 1) v1 ++ (wX0 q (ad 5) v5 (ad 6 99) ++ (wX3 q (ad 6) v6 ++ wX1 q (ad 7) v7)))) sz (fun (uu : SV × SV × SV × SV × SV) => wX5 q ad uu.1 ++ (wX3 q (ad 1) uu.2.1 ++ (wX0 q (ad 5) uu.2.2.1 (ad 6 99) ++ (wX3 q (ad 6) uu.2.2.2.1 ++ wX1 q (ad 7) uu.2.2.2.2))))) (va_A (wX5 q ad v0 ++ (wX3 q (ad 1) v1 ++ (wX0 q (ad 5) v5 (ad 6 99) ++ (wX3 q (ad 6) v6 ++ wX1 q (ad 7) v7)))) sz)) 0 0 (va_A (wX5 q ad v0 ++ (wX3 q (ad 1) v1 ++ (wX0 q (ad 5) v5 (ad 6 99) ++ (wX3 q (ad 6) v6 ++ wX1 q (ad 7) v7)))) sz) := by
  refine Met.ofW (cc := cX5_text) (maxL := 3) (ret := (some .int)) (by decide) rfl ?_
  intro p e s m args below meth c s₁ B hml hv
  obtain ⟨rfl, hsz, hP0, hK, hD0, hE, hR'⟩ := hv
  have hx := B.exec
  have hb := B.bytes
  have hr := B.returns
  have hW := mw_ws (atoms_spec (ws := mw yX5_text cX5_text 3 (some .int)) B.pre)
  have hown : s.vm.findClass RX5 = some m.cls := findClass_of_methodNamed B.named
  have hlocks := B.notSynchronized
  have X : Cx p s m [.ref (ad 0 99)].toArray c cX5_text 3 RX5 D q := ⟨hx, hb, hml, hown, hW, hK⟩
  subst hsz
  replace hD0 := hD0.self (sz := s.heap.size)
  have hS0 : va_S (va_A (wX5 q ad v0 ++ (wX3 q (ad 1) v1 ++ (wX0 q (ad 5) v5 (ad 6 99) ++ (wX3 q (ad 6) v6 ++ wX1 q (ad 7) v7)))) s.heap.size) s.heap s.heap [] := va_S.rf
  have hl0 := lv_entry ([.ref (ad 0 99)]) (n := 3) (Nat.le_of_ble_eq_true rfl)
  rw [lg_entry_eq]
  generalize (lg_sl ([.ref (ad 0 99)]) ++ List.replicate (3 - (lg_sl ([.ref (ad 0 99)])).length) Slot.unset).toArray = ls0 at hl0 ⊢
  have hl0 : lv_has ls0 3 [(0, .ref (ad 0 99))] := hl0
  unfold m_X5_text at hm
  refine lv_aload_n hx hb dX5_text_0 rfl (lv_at hl0 0 rfl) ?_
  refine va_get (D := D) (ci := 5) (v := .ref (ad 5 99)) (C := RX5) (T := TX5) (N := 11) hx hb hW iX5 hown hK hP0 0 rfl rfl 0 (by decide) (hW _ k_308) (fun _ h => h) rfl dX5_text_1 ?_
  obtain ⟨y4, hy4, hm⟩ := bn hm
  refine cVWTi (As := []) (rest := []) (Wn := fun (uu : SV × SV) => wX5 q ad v0 ++ (wX3 q (ad 1) v1 ++ (wX0 q (ad 5) uu.1 (ad 6 99) ++ (wX3 q (ad 6) uu.2 ++ wX1 q (ad 7) v7)))) X hE hR' hP0 hD0 hS0 (fun _ h => Or.inr h) hl0.1 (c_X0_readText l D q s.heap.size aK aV (ad 5) v5 (ad 6) v6 y4 hy4) [18, 19, 20, 21, 22, 23, 24, 25, 26, 27, 28, 29, 30, 31] [0, 1, 2, 3, 4, 5, 6, 7, 8, 9, 10, 11, 12, 13, 14, 15, 16, 17, 32, 33, 34, 35] [0, 1, 2, 3, 4, 5, 6, 7, 8, 9, 10, 11, 12, 13, 14, 15, 16, 17, 22, 23, 24, 25, 26, 27, 28, 29, 30, 31, 32, 33, 34, 35, 18, 19, 20, 21] rfl (Wr := wX5 q ad v0 ++ (wX3 q (ad 1) v1 ++ wX1 q (ad 7) v7)) rfl (by decide) (by decide) (by decide) (by decide) (fun _ => rfl) 18 rfl rfl rfl k_361 mX0_readText ⟨rfl, rfl⟩ ⟨Nat.le_of_ble_eq_true rfl, Nat.le_of_ble_eq_true rfl⟩ rfl rfl (Nat.le_of_ble_eq_true rfl) dX5_text_4 ⟨Nat.zero_le _, Nat.zero_le _⟩ (fun H1 locs1 hP hD hS1 => ?_)
  have hP1 : va_P D cls (wX5 q ad v0 ++ (wX3 q (ad 1) v1 ++ (wX0 q (ad 5) y4.2.1 (ad 6 99) ++ (wX3 q (ad 6) y4.2.2 ++ wX1 q (ad 7) v7)))) H1 := hP
  have hD1 : va_D (va_A (wX5 q ad v0 ++ (wX3 q (ad 1) v1 ++ (wX0 q (ad 5) v5 (ad 6 99) ++ (wX3 q (ad 6) v6 ++ wX1 q (ad 7) v7)))) s.heap.size) (wX5 q ad v0 ++ (wX3 q (ad 1) v1 ++ (wX0 q (ad 5) y4.2.1 (ad 6 99) ++ (wX3 q (ad 6) y4.2.2 ++ wX1 q (ad 7) v7)))) := hD
  clear hP hD hP0 hD0 hS0
  refine lv_istore_n (lv' := [(1, .int y4.1), (0, .ref (ad 0 99))]) hx hb dX5_text_7 rfl hl0 (by decide) rfl (fun ls2 hl2 => ?_)
  clear hl0
  refine lv_iload_n hx hb dX5_text_8 rfl (lv_at hl2 0 rfl) ?_
  refine lv_if_lt (tgt := 54) hx hb dX5_text_9 (by decide) (fun c9 => ?_) (fun c9 => ?_)
  · replace hm := tp hm c9
    refine lv_iload_n hx hb dX5_text_54 rfl (lv_at hl2 0 rfl) ?_
    exact eWi (Wf := fun (uu : SV × SV × SV × SV × SV) => wX5 q ad uu.1 ++ (wX3 q (ad 1) uu.2.1 ++ (wX0 q (ad 5) uu.2.2.1 (ad 6 99) ++ (wX3 q (ad 6) uu.2.2.2.1 ++ wX1 q (ad 7) uu.2.2.2.2)))) (u := (v0, v1, y4.2.1, y4.2.2, v7)) X hr hlocks hP1 hD1 hS1 hm dX5_text_55
  · replace hm := tn hm c9
    refine lv_aload_n hx hb dX5_text_12 rfl (lv_at hl2 1 rfl) ?_
    refine va_get (D := D) (ci := 5) (v := .ref (ad 1 99)) (C := RX5) (T := TX5) (N := 11) hx hb hW iX5 hown hK hP1 0 rfl rfl 1 (by decide) (hW _ k_309) (fun _ h => h) rfl dX5_text_13 ?_
    refine lv_aload_n hx hb dX5_text_16 rfl (lv_at hl2 1 rfl) ?_
    refine va_get (D := D) (ci := 5) (v := .ref (ad 5 99)) (C := RX5) (T := TX5) (N := 11) hx hb hW iX5 hown hK hP1 0 rfl rfl 0 (by decide) (hW _ k_308) (fun _ h => h) rfl dX5_text_17 ?_
    refine va_get (D := D) (ci := 0) (v := .ref (ad 6 99)) (C := RX0) (T := TX0) (N := 13) hx hb hW iX0 hown hK hP1 18 rfl rfl 2 (by decide) (hW _ k_178) (fun _ h => h) rfl dX5_text_20 ?_
    obtain ⟨y23, hy23, hm⟩ := bn hm
    refine cVWv (As := [.ref (ad 6 99)]) (rest := []) (Wn := fun (uu : SV) => wX5 q ad v0 ++ (wX3 q (ad 1) uu ++ (wX0 q (ad 5) y4.2.1 (ad 6 99) ++ (wX3 q (ad 6) y4.2.2 ++ wX1 q (ad 7) v7)))) X hP1 hD1 hS1 (fun _ h => Or.inr h) hl2.1 (c_X3_becomes l D q H1.size (ad 1) v1 (ad 6) y4.2.2 y23 hy23) [6, 7, 8, 9, 10, 11, 12, 13, 14, 15, 16, 17, 20, 21, 22, 23, 24, 25, 26, 27, 28, 29, 30, 31] [0, 1, 2, 3, 4, 5, 18, 19, 32, 33, 34, 35] [0, 1, 2, 3, 4, 5, 12, 13, 14, 15, 16, 17, 18, 19, 20, 21, 22, 23, 6, 7, 24, 25, 26, 27, 28, 29, 30, 31, 32, 33, 34, 35, 8, 9, 10, 11] rfl (Wr := wX5 q ad v0 ++ (wX0 q (ad 5) y4.2.1 (ad 6 99) ++ wX1 q (ad 7) v7)) rfl (by decide) (by decide) (by decide) (by decide) (fun _ => rfl) 6 rfl rfl rfl k_504 mX3_becomes ⟨rfl, rfl⟩ ⟨Nat.le_of_ble_eq_true rfl, Nat.le_of_ble_eq_true rfl⟩ rfl rfl (Nat.le_of_ble_eq_true rfl) dX5_text_23 ⟨Nat.zero_le _, Nat.zero_le _⟩ (fun H3 locs3 hP hD hS3 => ?_)
    have hP3 : va_P D cls (wX5 q ad v0 ++ (wX3 q (ad 1) y23 ++ (wX0 q (ad 5) y4.2.1 (ad 6 99) ++ (wX3 q (ad 6) y4.2.2 ++ wX1 q (ad 7) v7)))) H3 := hP
    have hD3 : va_D (va_A (wX5 q ad v0 ++ (wX3 q (ad 1) v1 ++ (wX0 q (ad 5) v5 (ad 6 99) ++ (wX3 q (ad 6) v6 ++ wX1 q (ad 7) v7)))) s.heap.size) (wX5 q ad v0 ++ (wX3 q (ad 1) y23 ++ (wX0 q (ad 5) y4.2.1 (ad 6 99) ++ (wX3 q (ad 6) y4.2.2 ++ wX1 q (ad 7) v7)))) := hD
    clear hP hD hP1 hD1 hS1
    refine lv_aload_n hx hb dX5_text_26 rfl (lv_at hl2 1 rfl) ?_
    refine va_get (D := D) (ci := 5) (v := .ref (ad 7 99)) (C := RX5) (T := TX5) (N := 11) hx hb hW iX5 hown hK hP3 0 rfl rfl 5 (by decide) (hW _ k_313) (fun _ h => h) rfl dX5_text_27 ?_
    refine lv_iconst (v := (0 : Int32)) hx hb dX5_text_30 (by decide) ?_
    refine va_put (D := D) (ci := 1) (v := .int (0 : Int32)) (ty := .int) (C := RX1) (T := TX1) (N := 4) hx hb hW iX1 tyX1 tyX1_ok nmX1 hown hK hP3 hD3 hS3 32 rfl rfl 0 (by decide) (hW _ k_228) (fun _ h => h) rfl (by decide +kernel) rfl rfl (Nat.le_of_ble_eq_true rfl) dX5_text_31 (fun H4 locs4 hP hD hS4 => ?_)
    obtain ⟨v4_, e4, hm⟩ := ltd hm
    have hP4 : va_P D cls (wX5 q ad v0 ++ (wX3 q (ad 1) y23 ++ (wX0 q (ad 5) y4.2.1 (ad 6 99) ++ (wX3 q (ad 6) y4.2.2 ++ wX1 q (ad 7) v4_)))) H4 := by rw [e4]; exact hP
    have hD4 : va_D (va_A (wX5 q ad v0 ++ (wX3 q (ad 1) v1 ++ (wX0 q (ad 5) v5 (ad 6 99) ++ (wX3 q (ad 6) v6 ++ wX1 q (ad 7) v7)))) s.heap.size) (wX5 q ad v0 ++ (wX3 q (ad 1) y23 ++ (wX0 q (ad 5) y4.2.1 (ad 6 99) ++ (wX3 q (ad 6) y4.2.2 ++ wX1 q (ad 7) v4_)))) := by rw [e4]; exact hD
    clear hP hD hP3 hD3 hS3
    refine lv_iconst (v := (0 : Int32)) hx hb dX5_text_34 (by decide) ?_
    refine lv_istore_n (lv' := [(2, .int (0 : Int32)), (1, .int y4.1), (0, .ref (ad 0 99))]) hx hb dX5_text_35 rfl hl2 (by decide) rfl (fun ls5 hl5 => ?_)
    clear hl2
    obtain ⟨r36, hr36, hm⟩ := bn hm
    obtain ⟨n36, hn36⟩ := lpC_ex hr36
    have hE36 : ∀ z36 : Int32 × SV, m_X5_text_K36 y4 y23 v4_ z36 = some res → ∀ (H : Heap) (locs : List Loc), va_P D cls (wX5 q ad z36.2 ++ (wX3 q (ad 1) y23 ++ (wX0 q (ad 5) y4.2.1 (ad 6 99) ++ (wX3 q (ad 6) y4.2.2 ++ wX1 q (ad 7) v4_)))) H → va_D (va_A (wX5 q ad v0 ++ (wX3 q (ad 1) v1 ++ (wX0 q (ad 5) v5 (ad 6 99) ++ (wX3 q (ad 6) v6 ++ wX1 q (ad 7) v7)))) s.heap.size) (wX5 q ad z36.2 ++ (wX3 q (ad 1) y23 ++ (wX0 q (ad 5) y4.2.1 (ad 6 99) ++ (wX3 q (ad 6) y4.2.2 ++ wX1 q (ad 7) v4_)))) → va_S (va_A (wX5 q ad v0 ++ (wX3 q (ad 1) v1 ++ (wX0 q (ad 5) v5 (ad 6 99) ++ (wX3 q (ad 6) v6 ++ wX1 q (ad 7) v7)))) s.heap.size) s.heap H locs → ∀ ls : Array Slot, lv_has ls 3 [(1, .int y4.1)] → W p l e ((headSpec (mw yX5_text cX5_text 3 (some .int)) ({ frames := 8, cells := 0, slots := 0, locals := 172 } : Room)).room) s m [.ref (ad 0 99)].toArray below meth c H locs 0 0 (MQ below (va_Qi (fun r w => r = res.1 ∧ w = res.2) (bW D q (wX5 q ad v0 ++ (wX3 q (ad 1) v1 ++ (wX0 q (ad 5) v5 (ad 6 99) ++ (wX3 q (ad 6) v6 ++ wX1 q (ad 7) v7)))) s.heap.size (fun (uu : SV × SV × SV × SV × SV) => wX5 q ad uu.1 ++ (wX3 q (ad 1) uu.2.1 ++ (wX0 q (ad 5) uu.2.2.1 (ad 6 99) ++ (wX3 q (ad 6) uu.2.2.2.1 ++ wX1 q (ad 7) uu.2.2.2.2))))) (va_A (wX5 q ad v0 ++ (wX3 q (ad 1) v1 ++ (wX0 q (ad 5) v5 (ad 6 99) ++ (wX3 q (ad 6) v6 ++ wX1 q (ad 7) v7)))) s.heap.size)) [.ref (ad 0 99)].toArray s 0 0 (va_A (wX5 q ad v0 ++ (wX3 q (ad 1) v1 ++ (wX0 q (ad 5) v5 (ad 6 99) ++ (wX3 q (ad 6) v6 ++ wX1 q (ad 7) v7)))) s.heap.size)) (F0 m 54 ls []) := by
      intro z36 hm H9 locs9 hP9 hD9 hS9 ls8 hl8
      unfold m_X5_text_K36 at hm
      refine lv_iload_n hx hb dX5_text_54 rfl (lv_at hl8 0 rfl) ?_
      exact eWi (Wf := fun (uu : SV × SV × SV × SV × SV) => wX5 q ad uu.1 ++ (wX3 q (ad 1) uu.2.1 ++ (wX0 q (ad 5) uu.2.2.1 (ad 6 99) ++ (wX3 q (ad 6) uu.2.2.2.1 ++ wX1 q (ad 7) uu.2.2.2.2)))) (u := (z36.2, y23, y4.2.1, y4.2.2, v4_)) X hr hlocks hP9 hD9 hS9 hm dX5_text_55
    have hL36 : ∀ (n : Nat) (z36 : Int32 × SV) (ρ36 : Int32 × SV), lpO (m_X5_text_L36) n z36 = some ρ36 → (m_X5_text_K36 y4 y23 v4_) ρ36 = some res → ∀ (H : Heap) (locs : List Loc), va_P D cls (wX5 q ad z36.2 ++ (wX3 q (ad 1) y23 ++ (wX0 q (ad 5) y4.2.1 (ad 6 99) ++ (wX3 q (ad 6) y4.2.2 ++ wX1 q (ad 7) v4_)))) H → va_D (va_A (wX5 q ad v0 ++ (wX3 q (ad 1) v1 ++ (wX0 q (ad 5) v5 (ad 6 99) ++ (wX3 q (ad 6) v6 ++ wX1 q (ad 7) v7)))) s.heap.size) (wX5 q ad z36.2 ++ (wX3 q (ad 1) y23 ++ (wX0 q (ad 5) y4.2.1 (ad 6 99) ++ (wX3 q (ad 6) y4.2.2 ++ wX1 q (ad 7) v4_)))) → va_S (va_A (wX5 q ad v0 ++ (wX3 q (ad 1) v1 ++ (wX0 q (ad 5) v5 (ad 6 99) ++ (wX3 q (ad 6) v6 ++ wX1 q (ad 7) v7)))) s.heap.size) s.heap H locs → ∀ ls : Array Slot, lv_has ls 3 [(1, .int y4.1), (0, .ref (ad 0 99)), (2, .int z36.1)] → W p l e ((headSpec (mw yX5_text cX5_text 3 (some .int)) ({ frames := 8, cells := 0, slots := 0, locals := 172 } : Room)).room) s m [.ref (ad 0 99)].toArray below meth c H locs 0 0 (MQ below (va_Qi (fun r w => r = res.1 ∧ w = res.2) (bW D q (wX5 q ad v0 ++ (wX3 q (ad 1) v1 ++ (wX0 q (ad 5) v5 (ad 6 99) ++ (wX3 q (ad 6) v6 ++ wX1 q (ad 7) v7)))) s.heap.size (fun (uu : SV × SV × SV × SV × SV) => wX5 q ad uu.1 ++ (wX3 q (ad 1) uu.2.1 ++ (wX0 q (ad 5) uu.2.2.1 (ad 6 99) ++ (wX3 q (ad 6) uu.2.2.2.1 ++ wX1 q (ad 7) uu.2.2.2.2))))) (va_A (wX5 q ad v0 ++ (wX3 q (ad 1) v1 ++ (wX0 q (ad 5) v5 (ad 6 99) ++ (wX3 q (ad 6) v6 ++ wX1 q (ad 7) v7)))) s.heap.size)) [.ref (ad 0 99)].toArray s 0 0 (va_A (wX5 q ad v0 ++ (wX3 q (ad 1) v1 ++ (wX0 q (ad 5) v5 (ad 6 99) ++ (wX3 q (ad 6) v6 ++ wX1 q (ad 7) v7)))) s.heap.size)) (F0 m 36 ls []) := by
      intro n
      induction n with
      | zero => intro _ _ h; cases h
      | succ n ih36 =>
        intro z36 ρ36 hz36 hK36 H7 locs7 hP7 hD7 hS7 ls6 hl6
        obtain ⟨t36, hm, hz36⟩ := bn hz36
        unfold m_X5_text_L36 at hm
        refine lv_iload_n hx hb dX5_text_36 rfl (lv_at hl6 2 rfl) ?_
        refine lv_iconst (v := (2 : Int32)) hx hb dX5_text_37 (by decide) ?_
        refine lv_icmp_ge (tgt := 54) hx hb dX5_text_38 (by decide) (fun c38 => ?_) (fun c38 => ?_)
        · replace hm := tp hm c38
          cases hm
          cases hz36
          exact hE36 (z36.1, z36.2) hK36 _ _ hP7 hD7 hS7 _ (lv_sub hl6 [0] rfl)
        · replace hm := tn hm c38
          refine lv_aload_n hx hb dX5_text_41 rfl (lv_at hl6 1 rfl) ?_
          refine va_get (D := D) (ci := 5) (v := .ref (ad 0 4)) (C := RX5) (T := TX5) (N := 11) hx hb hW iX5 hown hK hP7 0 rfl rfl 4 (by decide) (hW _ k_312) (fun _ h => h) rfl dX5_text_42 ?_
          refine lv_iload_n hx hb dX5_text_45 rfl (lv_at hl6 2 rfl) ?_
          refine lv_iconst (v := (0 : Int32)) hx hb dX5_text_46 (by decide) ?_
          obtain ⟨h10, hm⟩ := ckd hm
          refine va_zast (f := (z36.2 4)) hx hb hK hP7 hD7 hS7 2 2 rfl rfl (inB_vp h10) dX5_text_47 (fun H11 locs11 hP hD hS11 => ?_)
          obtain ⟨v11_, e11, hm⟩ := ltd hm
          have hP11 : va_P D cls (wX5 q ad v11_ ++ (wX3 q (ad 1) y23 ++ (wX0 q (ad 5) y4.2.1 (ad 6 99) ++ (wX3 q (ad 6) y4.2.2 ++ wX1 q (ad 7) v4_)))) H11 := by rw [e11]; exact hP
          have hD11 : va_D (va_A (wX5 q ad v0 ++ (wX3 q (ad 1) v1 ++ (wX0 q (ad 5) v5 (ad 6 99) ++ (wX3 q (ad 6) v6 ++ wX1 q (ad 7) v7)))) s.heap.size) (wX5 q ad v11_ ++ (wX3 q (ad 1) y23 ++ (wX0 q (ad 5) y4.2.1 (ad 6 99) ++ (wX3 q (ad 6) y4.2.2 ++ wX1 q (ad 7) v4_)))) := by rw [e11]; exact hD
          clear hP hD hP7 hD7 hS7
          refine lv_iinc (v := (z36.1 + (1 : Int32))) (lv' := [(2, .int (z36.1 + (1 : Int32))), (1, .int y4.1), (0, .ref (ad 0 99))]) hx hb dX5_text_48 hl6 (k := 2) rfl rfl (by decide) rfl (fun ls12 hl12 => ?_)
          clear hl6
          refine lv_goto (tgt := 36) hx hb dX5_text_51 (by decide) ?_
          cases hm
          exact ih36 ((z36.1 + (1 : Int32)), v11_) ρ36 hz36 hK36 _ _ hP11 hD11 hS11 _ (lv_sub hl12 [1, 2, 0] rfl)
    exact hL36 n36 ((0 : Int32), v0) r36 hn36 hm _ _ hP4 hD4 hS4 _ (lv_sub hl5 [1, 2, 0] rfl)
noncomputable def m_X5_fault (v0 : SV) (v5 : SV) (v6 : SV) : Option (Int32) :=
  some (v5 0 3)
set_option maxHeartbeats 4000000 in
set_option maxRecDepth 100000 in
theorem c_X5_fault (l : Launch) (D : va_G) (q : Nat → ClassId) (ad : Nat → Nat → Nat) (v0 : SV) (v5 : SV) (v6 : SV) (res : Int32) (hm : m_X5_fault v0 v5 v6 = some res) : Met l yX5_fault (mw yX5_fault cX5_fault 1 (some .int)) ({ frames := 0, cells := 0, slots := 0, locals := 0 } : Room) (pcR D q (wX5 q ad v0 ++ (wX0 q (ad 5) v5 (ad 6 99) ++ wX3 q (ad 6) v6)) [.ref (ad 0 99)]) (vp_Si (fun x => x = res)) 0 0 (fun _ => False) := by
  refine Met.ofW (cc := cX5_fault) (maxL := 1) (ret := (some .int)) (by decide) rfl ?_
  intro p e s m args below meth c s₁ B hml hv
  obtain ⟨rfl, hP0, hK⟩ := hv
  have hx := B.exec
  have hb := B.bytes
  have hr := B.returns
  have hW := mw_ws (atoms_spec (ws := mw yX5_fault cX5_fault 1 (some .int)) B.pre)
  have hown : s.vm.findClass RX5 = some m.cls := findClass_of_methodNamed B.named
  have hlocks := B.notSynchronized
  have X : Cx p s m [.ref (ad 0 99)].toArray c cX5_fault 1 RX5 D q := ⟨hx, hb, hml, hown, hW, hK⟩
  have hl0 := lv_entry ([.ref (ad 0 99)]) (n := 1) (Nat.le_of_ble_eq_true rfl)
  rw [lg_entry_eq]
  generalize (lg_sl ([.ref (ad 0 99)]) ++ List.replicate (1 - (lg_sl ([.ref (ad 0 99)])).length) Slot.unset).toArray = ls0 at hl0 ⊢
  have hl0 : lv_has ls0 1 [(0, .ref (ad 0 99))] := hl0
  unfold m_X5_fault at hm
  refine lv_aload_n hx hb dX5_fault_0 rfl (lv_at hl0 0 rfl) ?_
  refine va_get (D := D) (ci := 5) (v := .ref (ad 5 99)) (C := RX5) (T := TX5) (N := 11) hx hb hW iX5 hown hK hP0 0 rfl rfl 0 (by decide) (hW _ k_308) (fun _ h => h) rfl dX5_fault_1 ?_
  refine va_get (D := D) (ci := 0) (v := .int (v5 0 3)) (C := RX0) (T := TX0) (N := 13) hx hb hW iX0 hown hK hP0 6 rfl rfl 3 (by decide) (hW _ k_180) (fun _ h => h) rfl dX5_fault_4 ?_
  exact eRi  X hr hlocks hm dX5_fault_7
noncomputable def m_X5_rule (v0 : SV) (v1 : SV) (x1 : Int32) : Option (Int32) :=
  (if x1 = (0 : Int32) then some (v1 0 0) else (if x1 = (1 : Int32) then some (v1 0 1) else (if x1 = (2 : Int32) then some (v1 0 2) else (if x1 = (3 : Int32) then some (v1 0 3) else (if x1 = (4 : Int32) then some (v1 0 4) else (if x1 = (5 : Int32) then some (v1 0 5) else (if x1 = (6 : Int32) then (m_X3_showing v1 (-4 : Int32)).bind (fun y98 => some y98) else some (-1 : Int32))))))))
set_option maxHeartbeats 4000000 in
set_option maxRecDepth 100000 in
theorem c_X5_rule (l : Launch) (D : va_G) (q : Nat → ClassId) (ad : Nat → Nat → Nat) (v0 : SV) (v1 : SV) (x1 : Int32) (res : Int32) (hm : m_X5_rule v0 v1 x1 = some res) : Met l yX5_rule (mw yX5_rule cX5_rule 2 (some .int)) ({ frames := 3, cells := 0, slots := 0, locals := 65 } : Room) (pcR D q (wX5 q ad v0 ++ wX3 q (ad 1) v1) [.ref (ad 0 99), .int x1]) (vp_Si (fun x => x = res)) 0 0 (fun _ => False) := by
  refine Met.ofW (cc := cX5_rule) (maxL := 2) (ret := (some .int)) (by decide) rfl ?_
  intro p e s m args below meth c s₁ B hml hv
  obtain ⟨rfl, hP0, hK⟩ := hv
  have hx := B.exec
  have hb := B.bytes
  have hr := B.returns
  have hW := mw_ws (atoms_spec (ws := mw yX5_rule cX5_rule 2 (some .int)) B.pre)
  have hown : s.vm.findClass RX5 = some m.cls := findClass_of_methodNamed B.named
  have hlocks := B.notSynchronized
  have X : Cx p s m [.ref (ad 0 99), .int x1].toArray c cX5_rule 2 RX5 D q := ⟨hx, hb, hml, hown, hW, hK⟩
  have hl0 := lv_entry ([.ref (ad 0 99), .int x1]) (n := 2) (Nat.le_of_ble_eq_true rfl)
  rw [lg_entry_eq]
  generalize (lg_sl ([.ref (ad 0 99), .int x1]) ++ List.replicate (2 - (lg_sl ([.ref (ad 0 99), .int x1])).length) Slot.unset).toArray = ls0 at hl0 ⊢
  have hl0 : lv_has ls0 2 [(0, .ref (ad 0 99)), (1, .int x1)] := hl0
  unfold m_X5_rule at hm
  refine lv_iload_n hx hb dX5_rule_0 rfl (lv_at hl0 1 rfl) ?_
  by_cases c1_0 : x1 = (0 : Int32)
  · replace hm := tp hm c1_0
    refine lv_tableIn (off := 43) (tgt := 44) hx hb dX5_rule_1 (by rw [c1_0]; decide) (by rw [c1_0]; decide) (by rw [c1_0]; rfl) (by decide) ?_
    refine lv_aload_n hx hb dX5_rule_44 rfl (lv_at hl0 0 rfl) ?_
    refine va_get (D := D) (ci := 5) (v := .ref (ad 1 99)) (C := RX5) (T := TX5) (N := 11) hx hb hW iX5 hown hK hP0 0 rfl rfl 1 (by decide) (hW _ k_309) (fun _ h => h) rfl dX5_rule_45 ?_
    refine va_get (D := D) (ci := 3) (v := .int (v1 0 0)) (C := RX3) (T := TX3) (N := 17) hx hb hW iX3 hown hK hP0 6 rfl rfl 0 (by decide) (hW _ k_85) (fun _ h => h) rfl dX5_rule_48 ?_
    exact eRi  X hr hlocks hm dX5_rule_51
  · replace hm := tn hm c1_0
    by_cases c1_1 : x1 = (1 : Int32)
    · replace hm := tp hm c1_1
      refine lv_tableIn (off := 51) (tgt := 52) hx hb dX5_rule_1 (by rw [c1_1]; decide) (by rw [c1_1]; decide) (by rw [c1_1]; rfl) (by decide) ?_
      refine lv_aload_n hx hb dX5_rule_52 rfl (lv_at hl0 0 rfl) ?_
      refine va_get (D := D) (ci := 5) (v := .ref (ad 1 99)) (C := RX5) (T := TX5) (N := 11) hx hb hW iX5 hown hK hP0 0 rfl rfl 1 (by decide) (hW _ k_309) (fun _ h => h) rfl dX5_rule_53 ?_
      refine va_get (D := D) (ci := 3) (v := .int (v1 0 1)) (C := RX3) (T := TX3) (N := 17) hx hb hW iX3 hown hK hP0 6 rfl rfl 1 (by decide) (hW _ k_89) (fun _ h => h) rfl dX5_rule_56 ?_
      exact eRi  X hr hlocks hm dX5_rule_59
    · replace hm := tn hm c1_1
      by_cases c1_2 : x1 = (2 : Int32)
      · replace hm := tp hm c1_2
        refine lv_tableIn (off := 59) (tgt := 60) hx hb dX5_rule_1 (by rw [c1_2]; decide) (by rw [c1_2]; decide) (by rw [c1_2]; rfl) (by decide) ?_
        refine lv_aload_n hx hb dX5_rule_60 rfl (lv_at hl0 0 rfl) ?_
        refine va_get (D := D) (ci := 5) (v := .ref (ad 1 99)) (C := RX5) (T := TX5) (N := 11) hx hb hW iX5 hown hK hP0 0 rfl rfl 1 (by decide) (hW _ k_309) (fun _ h => h) rfl dX5_rule_61 ?_
        refine va_get (D := D) (ci := 3) (v := .int (v1 0 2)) (C := RX3) (T := TX3) (N := 17) hx hb hW iX3 hown hK hP0 6 rfl rfl 2 (by decide) (hW _ k_91) (fun _ h => h) rfl dX5_rule_64 ?_
        exact eRi  X hr hlocks hm dX5_rule_67
      · replace hm := tn hm c1_2
        by_cases c1_3 : x1 = (3 : Int32)
        · replace hm := tp hm c1_3
          refine lv_tableIn (off := 67) (tgt := 68) hx hb dX5_rule_1 (by rw [c1_3]; decide) (by rw [c1_3]; decide) (by rw [c1_3]; rfl) (by decide) ?_
          refine lv_aload_n hx hb dX5_rule_68 rfl (lv_at hl0 0 rfl) ?_
          refine va_get (D := D) (ci := 5) (v := .ref (ad 1 99)) (C := RX5) (T := TX5) (N := 11) hx hb hW iX5 hown hK hP0 0 rfl rfl 1 (by decide) (hW _ k_309) (fun _ h => h) rfl dX5_rule_69 ?_
          refine va_get (D := D) (ci := 3) (v := .int (v1 0 3)) (C := RX3) (T := TX3) (N := 17) hx hb hW iX3 hown hK hP0 6 rfl rfl 3 (by decide) (hW _ k_95) (fun _ h => h) rfl dX5_rule_72 ?_
          exact eRi  X hr hlocks hm dX5_rule_75
        · replace hm := tn hm c1_3
          by_cases c1_4 : x1 = (4 : Int32)
          · replace hm := tp hm c1_4
            refine lv_tableIn (off := 75) (tgt := 76) hx hb dX5_rule_1 (by rw [c1_4]; decide) (by rw [c1_4]; decide) (by rw [c1_4]; rfl) (by decide) ?_
            refine lv_aload_n hx hb dX5_rule_76 rfl (lv_at hl0 0 rfl) ?_
            refine va_get (D := D) (ci := 5) (v := .ref (ad 1 99)) (C := RX5) (T := TX5) (N := 11) hx hb hW iX5 hown hK hP0 0 rfl rfl 1 (by decide) (hW _ k_309) (fun _ h => h) rfl dX5_rule_77 ?_
            refine va_get (D := D) (ci := 3) (v := .int (v1 0 4)) (C := RX3) (T := TX3) (N := 17) hx hb hW iX3 hown hK hP0 6 rfl rfl 4 (by decide) (hW _ k_98) (fun _ h => h) rfl dX5_rule_80 ?_
            exact eRi  X hr hlocks hm dX5_rule_83
          · replace hm := tn hm c1_4
            by_cases c1_5 : x1 = (5 : Int32)
            · replace hm := tp hm c1_5
              refine lv_tableIn (off := 83) (tgt := 84) hx hb dX5_rule_1 (by rw [c1_5]; decide) (by rw [c1_5]; decide) (by rw [c1_5]; rfl) (by decide) ?_
              refine lv_aload_n hx hb dX5_rule_84 rfl (lv_at hl0 0 rfl) ?_
              refine va_get (D := D) (ci := 5) (v := .ref (ad 1 99)) (C := RX5) (T := TX5) (N := 11) hx hb hW iX5 hown hK hP0 0 rfl rfl 1 (by decide) (hW _ k_309) (fun _ h => h) rfl dX5_rule_85 ?_
              refine va_get (D := D) (ci := 3) (v := .int (v1 0 5)) (C := RX3) (T := TX3) (N := 17) hx hb hW iX3 hown hK hP0 6 rfl rfl 5 (by decide) (hW _ k_100) (fun _ h => h) rfl dX5_rule_88 ?_
              exact eRi  X hr hlocks hm dX5_rule_91
            · replace hm := tn hm c1_5
              by_cases c1_6 : x1 = (6 : Int32)
              · replace hm := tp hm c1_6
                refine lv_tableIn (off := 91) (tgt := 92) hx hb dX5_rule_1 (by rw [c1_6]; decide) (by rw [c1_6]; decide) (by rw [c1_6]; rfl) (by decide) ?_
                refine lv_aload_n hx hb dX5_rule_92 rfl (lv_at hl0 0 rfl) ?_
                refine va_get (D := D) (ci := 5) (v := .ref (ad 1 99)) (C := RX5) (T := TX5) (N := 11) hx hb hW iX5 hown hK hP0 0 rfl rfl 1 (by decide) (hW _ k_309) (fun _ h => h) rfl dX5_rule_93 ?_
                refine lv_bipush (v := (-4 : Int32)) hx hb dX5_rule_96 (by decide) ?_
                obtain ⟨y98, hy98, hm⟩ := bn hm
                refine cVRi (As := [.int (-4 : Int32)]) (rest := []) X hP0 hl0.1 (c_X3_showing l D q (ad 1) v1 (-4 : Int32) y98 hy98) [6, 7, 8, 9, 10, 11, 12, 13, 14, 15, 16, 17] rfl 6 rfl rfl rfl k_522 mX3_showing ⟨rfl, rfl⟩ ⟨Nat.le_of_ble_eq_true rfl, Nat.le_of_ble_eq_true rfl⟩ rfl rfl (Nat.le_of_ble_eq_true rfl) dX5_rule_98 ⟨Nat.zero_le _, Nat.zero_le _⟩ ?_
                exact eRi  X hr hlocks hm dX5_rule_101
              · replace hm := tn hm c1_6
                have hk1 : x1.toInt < 0 ∨ 6 < x1.toInt := by
                  have g0 := lv_neT c1_0 (show ((0 : Int32)).toInt = 0 from rfl)
                  have g1 := lv_neT c1_1 (show ((1 : Int32)).toInt = 1 from rfl)
                  have g2 := lv_neT c1_2 (show ((2 : Int32)).toInt = 2 from rfl)
                  have g3 := lv_neT c1_3 (show ((3 : Int32)).toInt = 3 from rfl)
                  have g4 := lv_neT c1_4 (show ((4 : Int32)).toInt = 4 from rfl)
                  have g5 := lv_neT c1_5 (show ((5 : Int32)).toInt = 5 from rfl)
                  have g6 := lv_neT c1_6 (show ((6 : Int32)).toInt = 6 from rfl)
                  omega
                refine lv_tableOut (tgt := 102) hx hb dX5_rule_1 hk1 (by decide) ?_
                refine lv_iconst (v := (-1 : Int32)) hx hb dX5_rule_102 (by decide) ?_
                exact eRi  X hr hlocks hm dX5_rule_103
noncomputable def m_X5_part (v0 : SV) (v1 : SV) (x1 : Int32) (x2 : Int32) : Option (Int32) :=
  (m_X3_hasPart v1 x1).bind (fun y5 => (if y5 = 0 then some (-1 : Int32) else (if x2 = (0 : Int32) then ck (inB x1 6) (some (v1 6 ((x1).toNatClampNeg))) else (if x2 = (1 : Int32) then ck (inB x1 6) (some (v1 7 ((x1).toNatClampNeg))) else (if x2 = (2 : Int32) then (m_X3_top v1 x1).bind (fun y65 => some y65) else some (-1 : Int32))))))
set_option maxHeartbeats 4000000 in
set_option maxRecDepth 100000 in
theorem c_X5_part (l : Launch) (D : va_G) (q : Nat → ClassId) (ad : Nat → Nat → Nat) (v0 : SV) (v1 : SV) (x1 : Int32) (x2 : Int32) (res : Int32) (hm : m_X5_part v0 v1 x1 x2 = some res) : Met l yX5_part (mw yX5_part cX5_part 3 (some .int)) ({ frames := 2, cells := 0, slots := 0, locals := 42 } : Room) (pcR D q (wX5 q ad v0 ++ wX3 q (ad 1) v1) [.ref (ad 0 99), .int x1, .int x2]) (vp_Si (fun x => x = res)) 0 0 (fun _ => False) := by
  refine Met.ofW (cc := cX5_part) (maxL := 3) (ret := (some .int)) (by decide) rfl ?_
  intro p e s m args below meth c s₁ B hml hv
  obtain ⟨rfl, hP0, hK⟩ := hv
  have hx := B.exec
  have hb := B.bytes
  have hr := B.returns
  have hW := mw_ws (atoms_spec (ws := mw yX5_part cX5_part 3 (some .int)) B.pre)
  have hown : s.vm.findClass RX5 = some m.cls := findClass_of_methodNamed B.named
  have hlocks := B.notSynchronized
  have X : Cx p s m [.ref (ad 0 99), .int x1, .int x2].toArray c cX5_part 3 RX5 D q := ⟨hx, hb, hml, hown, hW, hK⟩
  have hl0 := lv_entry ([.ref (ad 0 99), .int x1, .int x2]) (n := 3) (Nat.le_of_ble_eq_true rfl)
  rw [lg_entry_eq]
  generalize (lg_sl ([.ref (ad 0 99), .int x1, .int x2]) ++ List.replicate (3 - (lg_sl ([.ref (ad 0 99), .int x1, .int x2])).length) Slot.unset).toArray = ls0 at hl0 ⊢
  have hl0 : lv_has ls0 3 [(0, .ref (ad 0 99)), (1, .int x1), (2, .int x2)] := hl0
  unfold m_X5_part at hm
  refine lv_aload_n hx hb dX5_part_0 rfl (lv_at hl0 0 rfl) ?_
  refine va_get (D := D) (ci := 5) (v := .ref (ad 1 99)) (C := RX5) (T := TX5) (N := 11) hx hb hW iX5 hown hK hP0 0 rfl rfl 1 (by decide) (hW _ k_309) (fun _ h => h) rfl dX5_part_1 ?_
  refine lv_iload_n hx hb dX5_part_4 rfl (lv_at hl0 1 rfl) ?_
  obtain ⟨y5, hy5, hm⟩ := bn hm
  refine cVRi (As := [.int x1]) (rest := []) X hP0 hl0.1 (c_X3_hasPart l D q (ad 1) v1 x1 y5 hy5) [6, 7, 8, 9, 10, 11, 12, 13, 14, 15, 16, 17] rfl 6 rfl rfl rfl k_538 mX3_hasPart ⟨rfl, rfl⟩ ⟨Nat.le_of_ble_eq_true rfl, Nat.le_of_ble_eq_true rfl⟩ rfl rfl (Nat.le_of_ble_eq_true rfl) dX5_part_5 ⟨Nat.zero_le _, Nat.zero_le _⟩ ?_
  refine lv_if_ne (tgt := 13) hx hb dX5_part_8 (by decide) (fun c8 => ?_) (fun c8 => ?_)
  · replace hm := tn hm c8
    refine lv_iload_n hx hb dX5_part_13 rfl (lv_at hl0 2 rfl) ?_
    by_cases c14_0 : x2 = (0 : Int32)
    · replace hm := tp hm c14_0
      refine lv_tableIn (off := 26) (tgt := 40) hx hb dX5_part_14 (by rw [c14_0]; decide) (by rw [c14_0]; decide) (by rw [c14_0]; rfl) (by decide) ?_
      refine lv_aload_n hx hb dX5_part_40 rfl (lv_at hl0 0 rfl) ?_
      refine va_get (D := D) (ci := 5) (v := .ref (ad 1 99)) (C := RX5) (T := TX5) (N := 11) hx hb hW iX5 hown hK hP0 0 rfl rfl 1 (by decide) (hW _ k_309) (fun _ h => h) rfl dX5_part_41 ?_
      refine va_get (D := D) (ci := 3) (v := .ref (ad 1 6)) (C := RX3) (T := TX3) (N := 17) hx hb hW iX3 hown hK hP0 6 rfl rfl 6 (by decide) (hW _ k_103) (fun _ h => h) rfl dX5_part_44 ?_
      refine lv_iload_n hx hb dX5_part_47 rfl (lv_at hl0 1 rfl) ?_
      obtain ⟨h1, hm⟩ := ckd hm
      refine va_iald (f := (v1 6)) hx hb hK hP0 7 0 rfl rfl (inB_vp h1) dX5_part_48 ?_
      exact eRi  X hr hlocks hm dX5_part_49
    · replace hm := tn hm c14_0
      by_cases c14_1 : x2 = (1 : Int32)
      · replace hm := tp hm c14_1
        refine lv_tableIn (off := 36) (tgt := 50) hx hb dX5_part_14 (by rw [c14_1]; decide) (by rw [c14_1]; decide) (by rw [c14_1]; rfl) (by decide) ?_
        refine lv_aload_n hx hb dX5_part_50 rfl (lv_at hl0 0 rfl) ?_
        refine va_get (D := D) (ci := 5) (v := .ref (ad 1 99)) (C := RX5) (T := TX5) (N := 11) hx hb hW iX5 hown hK hP0 0 rfl rfl 1 (by decide) (hW _ k_309) (fun _ h => h) rfl dX5_part_51 ?_
        refine va_get (D := D) (ci := 3) (v := .ref (ad 1 7)) (C := RX3) (T := TX3) (N := 17) hx hb hW iX3 hown hK hP0 6 rfl rfl 7 (by decide) (hW _ k_106) (fun _ h => h) rfl dX5_part_54 ?_
        refine lv_iload_n hx hb dX5_part_57 rfl (lv_at hl0 1 rfl) ?_
        obtain ⟨h2, hm⟩ := ckd hm
        refine va_iald (f := (v1 7)) hx hb hK hP0 8 0 rfl rfl (inB_vp h2) dX5_part_58 ?_
        exact eRi  X hr hlocks hm dX5_part_59
      · replace hm := tn hm c14_1
        by_cases c14_2 : x2 = (2 : Int32)
        · replace hm := tp hm c14_2
          refine lv_tableIn (off := 46) (tgt := 60) hx hb dX5_part_14 (by rw [c14_2]; decide) (by rw [c14_2]; decide) (by rw [c14_2]; rfl) (by decide) ?_
          refine lv_aload_n hx hb dX5_part_60 rfl (lv_at hl0 0 rfl) ?_
          refine va_get (D := D) (ci := 5) (v := .ref (ad 1 99)) (C := RX5) (T := TX5) (N := 11) hx hb hW iX5 hown hK hP0 0 rfl rfl 1 (by decide) (hW _ k_309) (fun _ h => h) rfl dX5_part_61 ?_
          refine lv_iload_n hx hb dX5_part_64 rfl (lv_at hl0 1 rfl) ?_
          obtain ⟨y65, hy65, hm⟩ := bn hm
          refine cVRi (As := [.int x1]) (rest := []) X hP0 hl0.1 (c_X3_top l D q (ad 1) v1 x1 y65 hy65) [6, 7, 8, 9, 10, 11, 12, 13, 14, 15, 16, 17] rfl 6 rfl rfl rfl k_539 mX3_top ⟨rfl, rfl⟩ ⟨Nat.le_of_ble_eq_true rfl, Nat.le_of_ble_eq_true rfl⟩ rfl rfl (Nat.le_of_ble_eq_true rfl) dX5_part_65 ⟨Nat.zero_le _, Nat.zero_le _⟩ ?_
          exact eRi  X hr hlocks hm dX5_part_68
        · replace hm := tn hm c14_2
          have hk14 : x2.toInt < 0 ∨ 2 < x2.toInt := by
            have g0 := lv_neT c14_0 (show ((0 : Int32)).toInt = 0 from rfl)
            have g1 := lv_neT c14_1 (show ((1 : Int32)).toInt = 1 from rfl)
            have g2 := lv_neT c14_2 (show ((2 : Int32)).toInt = 2 from rfl)
            omega
          refine lv_tableOut (tgt := 69) hx hb dX5_part_14 hk14 (by decide) ?_
          refine lv_iconst (v := (-1 : Int32)) hx hb dX5_part_69 (by decide) ?_
          exact eRi  X hr hlocks hm dX5_part_70
  · replace hm := tp hm c8
    refine lv_iconst (v := (-1 : Int32)) hx hb dX5_part_11 (by decide) ?_
    exact eRi  X hr hlocks hm dX5_part_12
noncomputable def m_X5_layer (v0 : SV) (v1 : SV) (x1 : Int32) (x2 : Int32) : Option (Int32) :=
  (m_X3_hasPart v1 x1).bind (fun y5 => (if y5 = 0 then some (-1 : Int32) else ck (inB x1 6) ((m_X5_within x2 (0 : Int32) ((v1 7 ((x1).toNatClampNeg)) - (1 : Int32))).bind (fun y24 => (if y24 = 0 then some (-1 : Int32) else ck (inB ((x1 * (4 : Int32)) + x2) 24) (some (v1 8 ((((x1 * (4 : Int32)) + x2)).toNatClampNeg))))))))
set_option maxHeartbeats 4000000 in
set_option maxRecDepth 100000 in
theorem c_X5_layer (l : Launch) (D : va_G) (q : Nat → ClassId) (ad : Nat → Nat → Nat) (v0 : SV) (v1 : SV) (x1 : Int32) (x2 : Int32) (res : Int32) (hm : m_X5_layer v0 v1 x1 x2 = some res) : Met l yX5_layer (mw yX5_layer cX5_layer 3 (some .int)) ({ frames := 1, cells := 0, slots := 0, locals := 22 } : Room) (pcR D q (wX5 q ad v0 ++ wX3 q (ad 1) v1) [.ref (ad 0 99), .int x1, .int x2]) (vp_Si (fun x => x = res)) 0 0 (fun _ => False) := by
  refine Met.ofW (cc := cX5_layer) (maxL := 3) (ret := (some .int)) (by decide) rfl ?_
  intro p e s m args below meth c s₁ B hml hv
  obtain ⟨rfl, hP0, hK⟩ := hv
  have hx := B.exec
  have hb := B.bytes
  have hr := B.returns
  have hW := mw_ws (atoms_spec (ws := mw yX5_layer cX5_layer 3 (some .int)) B.pre)
  have hown : s.vm.findClass RX5 = some m.cls := findClass_of_methodNamed B.named
  have hlocks := B.notSynchronized
  have X : Cx p s m [.ref (ad 0 99), .int x1, .int x2].toArray c cX5_layer 3 RX5 D q := ⟨hx, hb, hml, hown, hW, hK⟩
  have hl0 := lv_entry ([.ref (ad 0 99), .int x1, .int x2]) (n := 3) (Nat.le_of_ble_eq_true rfl)
  rw [lg_entry_eq]
  generalize (lg_sl ([.ref (ad 0 99), .int x1, .int x2]) ++ List.replicate (3 - (lg_sl ([.ref (ad 0 99), .int x1, .int x2])).length) Slot.unset).toArray = ls0 at hl0 ⊢
  have hl0 : lv_has ls0 3 [(0, .ref (ad 0 99)), (1, .int x1), (2, .int x2)] := hl0
  unfold m_X5_layer at hm
  refine lv_aload_n hx hb dX5_layer_0 rfl (lv_at hl0 0 rfl) ?_
  refine va_get (D := D) (ci := 5) (v := .ref (ad 1 99)) (C := RX5) (T := TX5) (N := 11) hx hb hW iX5 hown hK hP0 0 rfl rfl 1 (by decide) (hW _ k_309) (fun _ h => h) rfl dX5_layer_1 ?_
  refine lv_iload_n hx hb dX5_layer_4 rfl (lv_at hl0 1 rfl) ?_
  obtain ⟨y5, hy5, hm⟩ := bn hm
  refine cVRi (As := [.int x1]) (rest := []) X hP0 hl0.1 (c_X3_hasPart l D q (ad 1) v1 x1 y5 hy5) [6, 7, 8, 9, 10, 11, 12, 13, 14, 15, 16, 17] rfl 6 rfl rfl rfl k_538 mX3_hasPart ⟨rfl, rfl⟩ ⟨Nat.le_of_ble_eq_true rfl, Nat.le_of_ble_eq_true rfl⟩ rfl rfl (Nat.le_of_ble_eq_true rfl) dX5_layer_5 ⟨Nat.zero_le _, Nat.zero_le _⟩ ?_
  refine lv_if_eq (tgt := 30) hx hb dX5_layer_8 (by decide) (fun c8 => ?_) (fun c8 => ?_)
  · replace hm := tp hm c8
    refine lv_iconst (v := (-1 : Int32)) hx hb dX5_layer_30 (by decide) ?_
    exact eRi  X hr hlocks hm dX5_layer_31
  · replace hm := tn hm c8
    refine lv_iload_n hx hb dX5_layer_11 rfl (lv_at hl0 2 rfl) ?_
    refine lv_iconst (v := (0 : Int32)) hx hb dX5_layer_12 (by decide) ?_
    refine lv_aload_n hx hb dX5_layer_13 rfl (lv_at hl0 0 rfl) ?_
    refine va_get (D := D) (ci := 5) (v := .ref (ad 1 99)) (C := RX5) (T := TX5) (N := 11) hx hb hW iX5 hown hK hP0 0 rfl rfl 1 (by decide) (hW _ k_309) (fun _ h => h) rfl dX5_layer_14 ?_
    refine va_get (D := D) (ci := 3) (v := .ref (ad 1 7)) (C := RX3) (T := TX3) (N := 17) hx hb hW iX3 hown hK hP0 6 rfl rfl 7 (by decide) (hW _ k_106) (fun _ h => h) rfl dX5_layer_17 ?_
    refine lv_iload_n hx hb dX5_layer_20 rfl (lv_at hl0 1 rfl) ?_
    obtain ⟨h1, hm⟩ := ckd hm
    refine va_iald (f := (v1 7)) hx hb hK hP0 8 0 rfl rfl (inB_vp h1) dX5_layer_21 ?_
    refine lv_iconst (v := (1 : Int32)) hx hb dX5_layer_22 (by decide) ?_
    refine lv_isub hx hb dX5_layer_23 ?_
    obtain ⟨y24, hy24, hm⟩ := bn hm
    refine cSRi (As := [.int x2, .int (0 : Int32), .int ((v1 7 ((x1).toNatClampNeg)) - (1 : Int32))]) (rest := []) X hP0 hl0.1 (c_X5_within l D q x2 (0 : Int32) ((v1 7 ((x1).toNatClampNeg)) - (1 : Int32)) y24 hy24) [] rfl k_346 mX5_within ⟨rfl, rfl⟩ ⟨Nat.le_of_ble_eq_true rfl, Nat.le_of_ble_eq_true rfl⟩ rfl rfl (Nat.le_of_ble_eq_true rfl) dX5_layer_24 ⟨Nat.zero_le _, Nat.zero_le _⟩ ?_
    refine lv_if_ne (tgt := 32) hx hb dX5_layer_27 (by decide) (fun c27 => ?_) (fun c27 => ?_)
    · replace hm := tn hm c27
      refine lv_aload_n hx hb dX5_layer_32 rfl (lv_at hl0 0 rfl) ?_
      refine va_get (D := D) (ci := 5) (v := .ref (ad 1 99)) (C := RX5) (T := TX5) (N := 11) hx hb hW iX5 hown hK hP0 0 rfl rfl 1 (by decide) (hW _ k_309) (fun _ h => h) rfl dX5_layer_33 ?_
      refine va_get (D := D) (ci := 3) (v := .ref (ad 1 8)) (C := RX3) (T := TX3) (N := 17) hx hb hW iX3 hown hK hP0 6 rfl rfl 8 (by decide) (hW _ k_109) (fun _ h => h) rfl dX5_layer_36 ?_
      refine lv_iload_n hx hb dX5_layer_39 rfl (lv_at hl0 1 rfl) ?_
      refine lv_iconst (v := (4 : Int32)) hx hb dX5_layer_40 (by decide) ?_
      refine lv_imul hx hb dX5_layer_41 ?_
      refine lv_iload_n hx hb dX5_layer_42 rfl (lv_at hl0 2 rfl) ?_
      refine lv_iadd hx hb dX5_layer_43 ?_
      obtain ⟨h2, hm⟩ := ckd hm
      refine va_iald (f := (v1 8)) hx hb hK hP0 9 0 rfl rfl (inB_vp h2) dX5_layer_44 ?_
      exact eRi  X hr hlocks hm dX5_layer_45
    · replace hm := tp hm c27
      refine lv_iconst (v := (-1 : Int32)) hx hb dX5_layer_30 (by decide) ?_
      exact eRi  X hr hlocks hm dX5_layer_31
noncomputable def m_X5_sitter (v0 : SV) (v1 : SV) (x1 : Int32) (x2 : Int32) : Option (Int32) :=
  (m_X3_hasSitter v1 x1).bind (fun y5 => (if y5 = 0 then some (-1 : Int32) else (if x2 = (0 : Int32) then ck (inB x1 5) (some (v1 9 ((x1).toNatClampNeg))) else (if x2 = (1 : Int32) then ck (inB x1 5) (some (v1 10 ((x1).toNatClampNeg))) else (if x2 = (2 : Int32) then ck (inB x1 5) (some (v1 11 ((x1).toNatClampNeg))) else (if x2 = (3 : Int32) then ck (inB x1 5) (some (v1 12 ((x1).toNatClampNeg))) else (if x2 = (4 : Int32) then ck (inB x1 5) (some (v1 13 ((x1).toNatClampNeg))) else (if x2 = (5 : Int32) then (m_X3_showing v1 x1).bind (fun y107 => some y107) else some (-1 : Int32)))))))))
set_option maxHeartbeats 4000000 in
set_option maxRecDepth 100000 in
theorem c_X5_sitter (l : Launch) (D : va_G) (q : Nat → ClassId) (ad : Nat → Nat → Nat) (v0 : SV) (v1 : SV) (x1 : Int32) (x2 : Int32) (res : Int32) (hm : m_X5_sitter v0 v1 x1 x2 = some res) : Met l yX5_sitter (mw yX5_sitter cX5_sitter 3 (some .int)) ({ frames := 3, cells := 0, slots := 0, locals := 65 } : Room) (pcR D q (wX5 q ad v0 ++ wX3 q (ad 1) v1) [.ref (ad 0 99), .int x1, .int x2]) (vp_Si (fun x => x = res)) 0 0 (fun _ => False) := by
  refine Met.ofW (cc := cX5_sitter) (maxL := 3) (ret := (some .int)) (by decide) rfl ?_
  intro p e s m args below meth c s₁ B hml hv
  obtain ⟨rfl, hP0, hK⟩ := hv
  have hx := B.exec
  have hb := B.bytes
  have hr := B.returns
  have hW := mw_ws (atoms_spec (ws := mw yX5_sitter cX5_sitter 3 (some .int)) B.pre)
  have hown : s.vm.findClass RX5 = some m.cls := findClass_of_methodNamed B.named
  have hlocks := B.notSynchronized
  have X : Cx p s m [.ref (ad 0 99), .int x1, .int x2].toArray c cX5_sitter 3 RX5 D q := ⟨hx, hb, hml, hown, hW, hK⟩
  have hl0 := lv_entry ([.ref (ad 0 99), .int x1, .int x2]) (n := 3) (Nat.le_of_ble_eq_true rfl)
  rw [lg_entry_eq]
  generalize (lg_sl ([.ref (ad 0 99), .int x1, .int x2]) ++ List.replicate (3 - (lg_sl ([.ref (ad 0 99), .int x1, .int x2])).length) Slot.unset).toArray = ls0 at hl0 ⊢
  have hl0 : lv_has ls0 3 [(0, .ref (ad 0 99)), (1, .int x1), (2, .int x2)] := hl0
  unfold m_X5_sitter at hm
  refine lv_aload_n hx hb dX5_sitter_0 rfl (lv_at hl0 0 rfl) ?_
  refine va_get (D := D) (ci := 5) (v := .ref (ad 1 99)) (C := RX5) (T := TX5) (N := 11) hx hb hW iX5 hown hK hP0 0 rfl rfl 1 (by decide) (hW _ k_309) (fun _ h => h) rfl dX5_sitter_1 ?_
  refine lv_iload_n hx hb dX5_sitter_4 rfl (lv_at hl0 1 rfl) ?_
  obtain ⟨y5, hy5, hm⟩ := bn hm
  refine cVRi (As := [.int x1]) (rest := []) X hP0 hl0.1 (c_X3_hasSitter l D q (ad 1) v1 x1 y5 hy5) [6, 7, 8, 9, 10, 11, 12, 13, 14, 15, 16, 17] rfl 6 rfl rfl rfl k_548 mX3_hasSitter ⟨rfl, rfl⟩ ⟨Nat.le_of_ble_eq_true rfl, Nat.le_of_ble_eq_true rfl⟩ rfl rfl (Nat.le_of_ble_eq_true rfl) dX5_sitter_5 ⟨Nat.zero_le _, Nat.zero_le _⟩ ?_
  refine lv_if_ne (tgt := 13) hx hb dX5_sitter_8 (by decide) (fun c8 => ?_) (fun c8 => ?_)
  · replace hm := tn hm c8
    refine lv_iload_n hx hb dX5_sitter_13 rfl (lv_at hl0 2 rfl) ?_
    by_cases c14_0 : x2 = (0 : Int32)
    · replace hm := tp hm c14_0
      refine lv_tableIn (off := 38) (tgt := 52) hx hb dX5_sitter_14 (by rw [c14_0]; decide) (by rw [c14_0]; decide) (by rw [c14_0]; rfl) (by decide) ?_
      refine lv_aload_n hx hb dX5_sitter_52 rfl (lv_at hl0 0 rfl) ?_
      refine va_get (D := D) (ci := 5) (v := .ref (ad 1 99)) (C := RX5) (T := TX5) (N := 11) hx hb hW iX5 hown hK hP0 0 rfl rfl 1 (by decide) (hW _ k_309) (fun _ h => h) rfl dX5_sitter_53 ?_
      refine va_get (D := D) (ci := 3) (v := .ref (ad 1 9)) (C := RX3) (T := TX3) (N := 17) hx hb hW iX3 hown hK hP0 6 rfl rfl 9 (by decide) (hW _ k_112) (fun _ h => h) rfl dX5_sitter_56 ?_
      refine lv_iload_n hx hb dX5_sitter_59 rfl (lv_at hl0 1 rfl) ?_
      obtain ⟨h1, hm⟩ := ckd hm
      refine va_iald (f := (v1 9)) hx hb hK hP0 10 0 rfl rfl (inB_vp h1) dX5_sitter_60 ?_
      exact eRi  X hr hlocks hm dX5_sitter_61
    · replace hm := tn hm c14_0
      by_cases c14_1 : x2 = (1 : Int32)
      · replace hm := tp hm c14_1
        refine lv_tableIn (off := 48) (tgt := 62) hx hb dX5_sitter_14 (by rw [c14_1]; decide) (by rw [c14_1]; decide) (by rw [c14_1]; rfl) (by decide) ?_
        refine lv_aload_n hx hb dX5_sitter_62 rfl (lv_at hl0 0 rfl) ?_
        refine va_get (D := D) (ci := 5) (v := .ref (ad 1 99)) (C := RX5) (T := TX5) (N := 11) hx hb hW iX5 hown hK hP0 0 rfl rfl 1 (by decide) (hW _ k_309) (fun _ h => h) rfl dX5_sitter_63 ?_
        refine va_get (D := D) (ci := 3) (v := .ref (ad 1 10)) (C := RX3) (T := TX3) (N := 17) hx hb hW iX3 hown hK hP0 6 rfl rfl 10 (by decide) (hW _ k_115) (fun _ h => h) rfl dX5_sitter_66 ?_
        refine lv_iload_n hx hb dX5_sitter_69 rfl (lv_at hl0 1 rfl) ?_
        obtain ⟨h2, hm⟩ := ckd hm
        refine va_iald (f := (v1 10)) hx hb hK hP0 11 0 rfl rfl (inB_vp h2) dX5_sitter_70 ?_
        exact eRi  X hr hlocks hm dX5_sitter_71
      · replace hm := tn hm c14_1
        by_cases c14_2 : x2 = (2 : Int32)
        · replace hm := tp hm c14_2
          refine lv_tableIn (off := 58) (tgt := 72) hx hb dX5_sitter_14 (by rw [c14_2]; decide) (by rw [c14_2]; decide) (by rw [c14_2]; rfl) (by decide) ?_
          refine lv_aload_n hx hb dX5_sitter_72 rfl (lv_at hl0 0 rfl) ?_
          refine va_get (D := D) (ci := 5) (v := .ref (ad 1 99)) (C := RX5) (T := TX5) (N := 11) hx hb hW iX5 hown hK hP0 0 rfl rfl 1 (by decide) (hW _ k_309) (fun _ h => h) rfl dX5_sitter_73 ?_
          refine va_get (D := D) (ci := 3) (v := .ref (ad 1 11)) (C := RX3) (T := TX3) (N := 17) hx hb hW iX3 hown hK hP0 6 rfl rfl 11 (by decide) (hW _ k_119) (fun _ h => h) rfl dX5_sitter_76 ?_
          refine lv_iload_n hx hb dX5_sitter_79 rfl (lv_at hl0 1 rfl) ?_
          obtain ⟨h3, hm⟩ := ckd hm
          refine va_iald (f := (v1 11)) hx hb hK hP0 12 0 rfl rfl (inB_vp h3) dX5_sitter_80 ?_
          exact eRi  X hr hlocks hm dX5_sitter_81
        · replace hm := tn hm c14_2
          by_cases c14_3 : x2 = (3 : Int32)
          · replace hm := tp hm c14_3
            refine lv_tableIn (off := 68) (tgt := 82) hx hb dX5_sitter_14 (by rw [c14_3]; decide) (by rw [c14_3]; decide) (by rw [c14_3]; rfl) (by decide) ?_
            refine lv_aload_n hx hb dX5_sitter_82 rfl (lv_at hl0 0 rfl) ?_
            refine va_get (D := D) (ci := 5) (v := .ref (ad 1 99)) (C := RX5) (T := TX5) (N := 11) hx hb hW iX5 hown hK hP0 0 rfl rfl 1 (by decide) (hW _ k_309) (fun _ h => h) rfl dX5_sitter_83 ?_
            refine va_get (D := D) (ci := 3) (v := .ref (ad 1 12)) (C := RX3) (T := TX3) (N := 17) hx hb hW iX3 hown hK hP0 6 rfl rfl 12 (by decide) (hW _ k_122) (fun _ h => h) rfl dX5_sitter_86 ?_
            refine lv_iload_n hx hb dX5_sitter_89 rfl (lv_at hl0 1 rfl) ?_
            obtain ⟨h4, hm⟩ := ckd hm
            refine va_iald (f := (v1 12)) hx hb hK hP0 13 0 rfl rfl (inB_vp h4) dX5_sitter_90 ?_
            exact eRi  X hr hlocks hm dX5_sitter_91
          · replace hm := tn hm c14_3
            by_cases c14_4 : x2 = (4 : Int32)
            · replace hm := tp hm c14_4
              refine lv_tableIn (off := 78) (tgt := 92) hx hb dX5_sitter_14 (by rw [c14_4]; decide) (by rw [c14_4]; decide) (by rw [c14_4]; rfl) (by decide) ?_
              refine lv_aload_n hx hb dX5_sitter_92 rfl (lv_at hl0 0 rfl) ?_
              refine va_get (D := D) (ci := 5) (v := .ref (ad 1 99)) (C := RX5) (T := TX5) (N := 11) hx hb hW iX5 hown hK hP0 0 rfl rfl 1 (by decide) (hW _ k_309) (fun _ h => h) rfl dX5_sitter_93 ?_
              refine va_get (D := D) (ci := 3) (v := .ref (ad 1 13)) (C := RX3) (T := TX3) (N := 17) hx hb hW iX3 hown hK hP0 6 rfl rfl 13 (by decide) (hW _ k_125) (fun _ h => h) rfl dX5_sitter_96 ?_
              refine lv_iload_n hx hb dX5_sitter_99 rfl (lv_at hl0 1 rfl) ?_
              obtain ⟨h5, hm⟩ := ckd hm
              refine va_iald (f := (v1 13)) hx hb hK hP0 14 0 rfl rfl (inB_vp h5) dX5_sitter_100 ?_
              exact eRi  X hr hlocks hm dX5_sitter_101
            · replace hm := tn hm c14_4
              by_cases c14_5 : x2 = (5 : Int32)
              · replace hm := tp hm c14_5
                refine lv_tableIn (off := 88) (tgt := 102) hx hb dX5_sitter_14 (by rw [c14_5]; decide) (by rw [c14_5]; decide) (by rw [c14_5]; rfl) (by decide) ?_
                refine lv_aload_n hx hb dX5_sitter_102 rfl (lv_at hl0 0 rfl) ?_
                refine va_get (D := D) (ci := 5) (v := .ref (ad 1 99)) (C := RX5) (T := TX5) (N := 11) hx hb hW iX5 hown hK hP0 0 rfl rfl 1 (by decide) (hW _ k_309) (fun _ h => h) rfl dX5_sitter_103 ?_
                refine lv_iload_n hx hb dX5_sitter_106 rfl (lv_at hl0 1 rfl) ?_
                obtain ⟨y107, hy107, hm⟩ := bn hm
                refine cVRi (As := [.int x1]) (rest := []) X hP0 hl0.1 (c_X3_showing l D q (ad 1) v1 x1 y107 hy107) [6, 7, 8, 9, 10, 11, 12, 13, 14, 15, 16, 17] rfl 6 rfl rfl rfl k_522 mX3_showing ⟨rfl, rfl⟩ ⟨Nat.le_of_ble_eq_true rfl, Nat.le_of_ble_eq_true rfl⟩ rfl rfl (Nat.le_of_ble_eq_true rfl) dX5_sitter_107 ⟨Nat.zero_le _, Nat.zero_le _⟩ ?_
                exact eRi  X hr hlocks hm dX5_sitter_110
              · replace hm := tn hm c14_5
                have hk14 : x2.toInt < 0 ∨ 5 < x2.toInt := by
                  have g0 := lv_neT c14_0 (show ((0 : Int32)).toInt = 0 from rfl)
                  have g1 := lv_neT c14_1 (show ((1 : Int32)).toInt = 1 from rfl)
                  have g2 := lv_neT c14_2 (show ((2 : Int32)).toInt = 2 from rfl)
                  have g3 := lv_neT c14_3 (show ((3 : Int32)).toInt = 3 from rfl)
                  have g4 := lv_neT c14_4 (show ((4 : Int32)).toInt = 4 from rfl)
                  have g5 := lv_neT c14_5 (show ((5 : Int32)).toInt = 5 from rfl)
                  omega
                refine lv_tableOut (tgt := 111) hx hb dX5_sitter_14 hk14 (by decide) ?_
                refine lv_iconst (v := (-1 : Int32)) hx hb dX5_sitter_111 (by decide) ?_
                exact eRi  X hr hlocks hm dX5_sitter_112
  · replace hm := tp hm c8
    refine lv_iconst (v := (-1 : Int32)) hx hb dX5_sitter_11 (by decide) ?_
    exact eRi  X hr hlocks hm dX5_sitter_12
noncomputable def m_X5_bond (v0 : SV) (v1 : SV) (x1 : Int32) (x2 : Int32) : Option (Int32) :=
  (m_X5_within x1 (0 : Int32) ((v1 0 2) - (1 : Int32))).bind (fun y11 => (if y11 = 0 then some (-1 : Int32) else (if x2 = (0 : Int32) then ck (inB x1 5) (some (v1 14 ((x1).toNatClampNeg))) else (if x2 = (1 : Int32) then ck (inB x1 5) (some (v1 15 ((x1).toNatClampNeg))) else (if x2 = (2 : Int32) then (m_X3_showsLike v1 x1).bind (fun y73 => (if y73 = 0 then some (0 : Int32) else some (1 : Int32))) else some (-1 : Int32))))))
set_option maxHeartbeats 4000000 in
set_option maxRecDepth 100000 in
theorem c_X5_bond (l : Launch) (D : va_G) (q : Nat → ClassId) (ad : Nat → Nat → Nat) (v0 : SV) (v1 : SV) (x1 : Int32) (x2 : Int32) (res : Int32) (hm : m_X5_bond v0 v1 x1 x2 = some res) : Met l yX5_bond (mw yX5_bond cX5_bond 3 (some .int)) ({ frames := 4, cells := 0, slots := 0, locals := 89 } : Room) (pcR D q (wX5 q ad v0 ++ wX3 q (ad 1) v1) [.ref (ad 0 99), .int x1, .int x2]) (vp_Si (fun x => x = res)) 0 0 (fun _ => False) := by
  refine Met.ofW (cc := cX5_bond) (maxL := 3) (ret := (some .int)) (by decide) rfl ?_
  intro p e s m args below meth c s₁ B hml hv
  obtain ⟨rfl, hP0, hK⟩ := hv
  have hx := B.exec
  have hb := B.bytes
  have hr := B.returns
  have hW := mw_ws (atoms_spec (ws := mw yX5_bond cX5_bond 3 (some .int)) B.pre)
  have hown : s.vm.findClass RX5 = some m.cls := findClass_of_methodNamed B.named
  have hlocks := B.notSynchronized
  have X : Cx p s m [.ref (ad 0 99), .int x1, .int x2].toArray c cX5_bond 3 RX5 D q := ⟨hx, hb, hml, hown, hW, hK⟩
  have hl0 := lv_entry ([.ref (ad 0 99), .int x1, .int x2]) (n := 3) (Nat.le_of_ble_eq_true rfl)
  rw [lg_entry_eq]
  generalize (lg_sl ([.ref (ad 0 99), .int x1, .int x2]) ++ List.replicate (3 - (lg_sl ([.ref (ad 0 99), .int x1, .int x2])).length) Slot.unset).toArray = ls0 at hl0 ⊢
  have hl0 : lv_has ls0 3 [(0, .ref (ad 0 99)), (1, .int x1), (2, .int x2)] := hl0
  unfold m_X5_bond at hm
  refine lv_iload_n hx hb dX5_bond_0 rfl (lv_at hl0 1 rfl) ?_
  refine lv_iconst (v := (0 : Int32)) hx hb dX5_bond_1 (by decide) ?_
  refine lv_aload_n hx hb dX5_bond_2 rfl (lv_at hl0 0 rfl) ?_
  refine va_get (D := D) (ci := 5) (v := .ref (ad 1 99)) (C := RX5) (T := TX5) (N := 11) hx hb hW iX5 hown hK hP0 0 rfl rfl 1 (by decide) (hW _ k_309) (fun _ h => h) rfl dX5_bond_3 ?_
  refine va_get (D := D) (ci := 3) (v := .int (v1 0 2)) (C := RX3) (T := TX3) (N := 17) hx hb hW iX3 hown hK hP0 6 rfl rfl 2 (by decide) (hW _ k_91) (fun _ h => h) rfl dX5_bond_6 ?_
  refine lv_iconst (v := (1 : Int32)) hx hb dX5_bond_9 (by decide) ?_
  refine lv_isub hx hb dX5_bond_10 ?_
  obtain ⟨y11, hy11, hm⟩ := bn hm
  refine cSRi (As := [.int x1, .int (0 : Int32), .int ((v1 0 2) - (1 : Int32))]) (rest := []) X hP0 hl0.1 (c_X5_within l D q x1 (0 : Int32) ((v1 0 2) - (1 : Int32)) y11 hy11) [] rfl k_346 mX5_within ⟨rfl, rfl⟩ ⟨Nat.le_of_ble_eq_true rfl, Nat.le_of_ble_eq_true rfl⟩ rfl rfl (Nat.le_of_ble_eq_true rfl) dX5_bond_11 ⟨Nat.zero_le _, Nat.zero_le _⟩ ?_
  refine lv_if_ne (tgt := 19) hx hb dX5_bond_14 (by decide) (fun c14 => ?_) (fun c14 => ?_)
  · replace hm := tn hm c14
    refine lv_iload_n hx hb dX5_bond_19 rfl (lv_at hl0 2 rfl) ?_
    by_cases c20_0 : x2 = (0 : Int32)
    · replace hm := tp hm c20_0
      refine lv_tableIn (off := 28) (tgt := 48) hx hb dX5_bond_20 (by rw [c20_0]; decide) (by rw [c20_0]; decide) (by rw [c20_0]; rfl) (by decide) ?_
      refine lv_aload_n hx hb dX5_bond_48 rfl (lv_at hl0 0 rfl) ?_
      refine va_get (D := D) (ci := 5) (v := .ref (ad 1 99)) (C := RX5) (T := TX5) (N := 11) hx hb hW iX5 hown hK hP0 0 rfl rfl 1 (by decide) (hW _ k_309) (fun _ h => h) rfl dX5_bond_49 ?_
      refine va_get (D := D) (ci := 3) (v := .ref (ad 1 14)) (C := RX3) (T := TX3) (N := 17) hx hb hW iX3 hown hK hP0 6 rfl rfl 14 (by decide) (hW _ k_128) (fun _ h => h) rfl dX5_bond_52 ?_
      refine lv_iload_n hx hb dX5_bond_55 rfl (lv_at hl0 1 rfl) ?_
      obtain ⟨h1, hm⟩ := ckd hm
      refine va_iald (f := (v1 14)) hx hb hK hP0 15 0 rfl rfl (inB_vp h1) dX5_bond_56 ?_
      exact eRi  X hr hlocks hm dX5_bond_57
    · replace hm := tn hm c20_0
      by_cases c20_1 : x2 = (1 : Int32)
      · replace hm := tp hm c20_1
        refine lv_tableIn (off := 38) (tgt := 58) hx hb dX5_bond_20 (by rw [c20_1]; decide) (by rw [c20_1]; decide) (by rw [c20_1]; rfl) (by decide) ?_
        refine lv_aload_n hx hb dX5_bond_58 rfl (lv_at hl0 0 rfl) ?_
        refine va_get (D := D) (ci := 5) (v := .ref (ad 1 99)) (C := RX5) (T := TX5) (N := 11) hx hb hW iX5 hown hK hP0 0 rfl rfl 1 (by decide) (hW _ k_309) (fun _ h => h) rfl dX5_bond_59 ?_
        refine va_get (D := D) (ci := 3) (v := .ref (ad 1 15)) (C := RX3) (T := TX3) (N := 17) hx hb hW iX3 hown hK hP0 6 rfl rfl 15 (by decide) (hW _ k_132) (fun _ h => h) rfl dX5_bond_62 ?_
        refine lv_iload_n hx hb dX5_bond_65 rfl (lv_at hl0 1 rfl) ?_
        obtain ⟨h2, hm⟩ := ckd hm
        refine va_iald (f := (v1 15)) hx hb hK hP0 16 0 rfl rfl (inB_vp h2) dX5_bond_66 ?_
        exact eRi  X hr hlocks hm dX5_bond_67
      · replace hm := tn hm c20_1
        by_cases c20_2 : x2 = (2 : Int32)
        · replace hm := tp hm c20_2
          refine lv_tableIn (off := 48) (tgt := 68) hx hb dX5_bond_20 (by rw [c20_2]; decide) (by rw [c20_2]; decide) (by rw [c20_2]; rfl) (by decide) ?_
          refine lv_aload_n hx hb dX5_bond_68 rfl (lv_at hl0 0 rfl) ?_
          refine va_get (D := D) (ci := 5) (v := .ref (ad 1 99)) (C := RX5) (T := TX5) (N := 11) hx hb hW iX5 hown hK hP0 0 rfl rfl 1 (by decide) (hW _ k_309) (fun _ h => h) rfl dX5_bond_69 ?_
          refine lv_iload_n hx hb dX5_bond_72 rfl (lv_at hl0 1 rfl) ?_
          obtain ⟨y73, hy73, hm⟩ := bn hm
          refine cVRi (As := [.int x1]) (rest := []) X hP0 hl0.1 (c_X3_showsLike l D q (ad 1) v1 x1 y73 hy73) [6, 7, 8, 9, 10, 11, 12, 13, 14, 15, 16, 17] rfl 6 rfl rfl rfl k_556 mX3_showsLike ⟨rfl, rfl⟩ ⟨Nat.le_of_ble_eq_true rfl, Nat.le_of_ble_eq_true rfl⟩ rfl rfl (Nat.le_of_ble_eq_true rfl) dX5_bond_73 ⟨Nat.zero_le _, Nat.zero_le _⟩ ?_
          refine lv_if_eq (tgt := 83) hx hb dX5_bond_76 (by decide) (fun c76 => ?_) (fun c76 => ?_)
          · replace hm := tp hm c76
            refine lv_iconst (v := (0 : Int32)) hx hb dX5_bond_83 (by decide) ?_
            exact eRi  X hr hlocks hm dX5_bond_84
          · replace hm := tn hm c76
            refine lv_iconst (v := (1 : Int32)) hx hb dX5_bond_79 (by decide) ?_
            refine lv_goto (tgt := 84) hx hb dX5_bond_80 (by decide) ?_
            exact eRi  X hr hlocks hm dX5_bond_84
        · replace hm := tn hm c20_2
          have hk20 : x2.toInt < 0 ∨ 2 < x2.toInt := by
            have g0 := lv_neT c20_0 (show ((0 : Int32)).toInt = 0 from rfl)
            have g1 := lv_neT c20_1 (show ((1 : Int32)).toInt = 1 from rfl)
            have g2 := lv_neT c20_2 (show ((2 : Int32)).toInt = 2 from rfl)
            omega
          refine lv_tableOut (tgt := 85) hx hb dX5_bond_20 hk20 (by decide) ?_
          refine lv_iconst (v := (-1 : Int32)) hx hb dX5_bond_85 (by decide) ?_
          exact eRi  X hr hlocks hm dX5_bond_86
  · replace hm := tp hm c14
    refine lv_iconst (v := (-1 : Int32)) hx hb dX5_bond_17 (by decide) ?_
    exact eRi  X hr hlocks hm dX5_bond_18
noncomputable def m_X5_forger (v0 : SV) (v1 : SV) (x1 : Int32) : Option (Int32) :=
  (m_X5_within x1 (0 : Int32) ((v1 0 3) - (1 : Int32))).bind (fun y11 => (if y11 = 0 then some (-1 : Int32) else ck (inB x1 4) (some (v1 16 ((x1).toNatClampNeg)))))
set_option maxHeartbeats 4000000 in
set_option maxRecDepth 100000 in
theorem c_X5_forger (l : Launch) (D : va_G) (q : Nat → ClassId) (ad : Nat → Nat → Nat) (v0 : SV) (v1 : SV) (x1 : Int32) (res : Int32) (hm : m_X5_forger v0 v1 x1 = some res) : Met l yX5_forger (mw yX5_forger cX5_forger 2 (some .int)) ({ frames := 1, cells := 0, slots := 0, locals := 22 } : Room) (pcR D q (wX5 q ad v0 ++ wX3 q (ad 1) v1) [.ref (ad 0 99), .int x1]) (vp_Si (fun x => x = res)) 0 0 (fun _ => False) := by
  refine Met.ofW (cc := cX5_forger) (maxL := 2) (ret := (some .int)) (by decide) rfl ?_
  intro p e s m args below meth c s₁ B hml hv
  obtain ⟨rfl, hP0, hK⟩ := hv
  have hx := B.exec
  have hb := B.bytes
  have hr := B.returns
  have hW := mw_ws (atoms_spec (ws := mw yX5_forger cX5_forger 2 (some .int)) B.pre)
  have hown : s.vm.findClass RX5 = some m.cls := findClass_of_methodNamed B.named
  have hlocks := B.notSynchronized
  have X : Cx p s m [.ref (ad 0 99), .int x1].toArray c cX5_forger 2 RX5 D q := ⟨hx, hb, hml, hown, hW, hK⟩
  have hl0 := lv_entry ([.ref (ad 0 99), .int x1]) (n := 2) (Nat.le_of_ble_eq_true rfl)
  rw [lg_entry_eq]
  generalize (lg_sl ([.ref (ad 0 99), .int x1]) ++ List.replicate (2 - (lg_sl ([.ref (ad 0 99), .int x1])).length) Slot.unset).toArray = ls0 at hl0 ⊢
  have hl0 : lv_has ls0 2 [(0, .ref (ad 0 99)), (1, .int x1)] := hl0
  unfold m_X5_forger at hm
  refine lv_iload_n hx hb dX5_forger_0 rfl (lv_at hl0 1 rfl) ?_
  refine lv_iconst (v := (0 : Int32)) hx hb dX5_forger_1 (by decide) ?_
  refine lv_aload_n hx hb dX5_forger_2 rfl (lv_at hl0 0 rfl) ?_
  refine va_get (D := D) (ci := 5) (v := .ref (ad 1 99)) (C := RX5) (T := TX5) (N := 11) hx hb hW iX5 hown hK hP0 0 rfl rfl 1 (by decide) (hW _ k_309) (fun _ h => h) rfl dX5_forger_3 ?_
  refine va_get (D := D) (ci := 3) (v := .int (v1 0 3)) (C := RX3) (T := TX3) (N := 17) hx hb hW iX3 hown hK hP0 6 rfl rfl 3 (by decide) (hW _ k_95) (fun _ h => h) rfl dX5_forger_6 ?_
  refine lv_iconst (v := (1 : Int32)) hx hb dX5_forger_9 (by decide) ?_
  refine lv_isub hx hb dX5_forger_10 ?_
  obtain ⟨y11, hy11, hm⟩ := bn hm
  refine cSRi (As := [.int x1, .int (0 : Int32), .int ((v1 0 3) - (1 : Int32))]) (rest := []) X hP0 hl0.1 (c_X5_within l D q x1 (0 : Int32) ((v1 0 3) - (1 : Int32)) y11 hy11) [] rfl k_346 mX5_within ⟨rfl, rfl⟩ ⟨Nat.le_of_ble_eq_true rfl, Nat.le_of_ble_eq_true rfl⟩ rfl rfl (Nat.le_of_ble_eq_true rfl) dX5_forger_11 ⟨Nat.zero_le _, Nat.zero_le _⟩ ?_
  refine lv_if_eq (tgt := 29) hx hb dX5_forger_14 (by decide) (fun c14 => ?_) (fun c14 => ?_)
  · replace hm := tp hm c14
    refine lv_iconst (v := (-1 : Int32)) hx hb dX5_forger_29 (by decide) ?_
    exact eRi  X hr hlocks hm dX5_forger_30
  · replace hm := tn hm c14
    refine lv_aload_n hx hb dX5_forger_17 rfl (lv_at hl0 0 rfl) ?_
    refine va_get (D := D) (ci := 5) (v := .ref (ad 1 99)) (C := RX5) (T := TX5) (N := 11) hx hb hW iX5 hown hK hP0 0 rfl rfl 1 (by decide) (hW _ k_309) (fun _ h => h) rfl dX5_forger_18 ?_
    refine va_get (D := D) (ci := 3) (v := .ref (ad 1 16)) (C := RX3) (T := TX3) (N := 17) hx hb hW iX3 hown hK hP0 6 rfl rfl 16 (by decide) (hW _ k_136) (fun _ h => h) rfl dX5_forger_21 ?_
    refine lv_iload_n hx hb dX5_forger_24 rfl (lv_at hl0 1 rfl) ?_
    obtain ⟨h1, hm⟩ := ckd hm
    refine va_iald (f := (v1 16)) hx hb hK hP0 17 0 rfl rfl (inB_vp h1) dX5_forger_25 ?_
    refine lv_goto (tgt := 30) hx hb dX5_forger_26 (by decide) ?_
    exact eRi  X hr hlocks hm dX5_forger_30
noncomputable def m_X5_paint (v0 : SV) (v1 : SV) (x1 : Int32) (x2 : Int32) : Option (Int32 × SV) :=
  (m_X3_sit v1 x1 x2).bind (fun y6 => some (y6.1, y6.2))
set_option maxHeartbeats 4000000 in
set_option maxRecDepth 100000 in
theorem c_X5_paint (l : Launch) (D : va_G) (q : Nat → ClassId) (sz : Nat) (ad : Nat → Nat → Nat) (v0 : SV) (v1 : SV) (x1 : Int32) (x2 : Int32) (res : Int32 × SV) (hm : m_X5_paint v0 v1 x1 x2 = some res) : Met l yX5_paint (mw yX5_paint cX5_paint 3 (some .int)) ({ frames := 3, cells := 0, slots := 0, locals := 105 } : Room) (pcW D q (wX5 q ad v0 ++ wX3 q (ad 1) v1) sz [.ref (ad 0 99), .int x1, .int x2]) (va_Qi (fun r w => r = res.1 ∧ w = res.2) (bW D q (wX5 q ad v0 ++ wX3 q (ad 1) v1) sz (fun (uu : SV) => wX5 q ad v0 ++ wX3 q (ad 1) uu)) (va_A (wX5 q ad v0 ++ wX3 q (ad 1) v1) sz)) 0 0 (va_A (wX5 q ad v0 ++ wX3 q (ad 1) v1) sz) := by
  refine Met.ofW (cc := cX5_paint) (maxL := 3) (ret := (some .int)) (by decide) rfl ?_
  intro p e s m args below meth c s₁ B hml hv
  obtain ⟨rfl, hsz, hP0, hK, hD0⟩ := hv
  have hx := B.exec
  have hb := B.bytes
  have hr := B.returns
  have hW := mw_ws (atoms_spec (ws := mw yX5_paint cX5_paint 3 (some .int)) B.pre)
  have hown : s.vm.findClass RX5 = some m.cls := findClass_of_methodNamed B.named
  have hlocks := B.notSynchronized
  have X : Cx p s m [.ref (ad 0 99), .int x1, .int x2].toArray c cX5_paint 3 RX5 D q := ⟨hx, hb, hml, hown, hW, hK⟩
  subst hsz
  replace hD0 := hD0.self (sz := s.heap.size)
  have hS0 : va_S (va_A (wX5 q ad v0 ++ wX3 q (ad 1) v1) s.heap.size) s.heap s.heap [] := va_S.rf
  have hl0 := lv_entry ([.ref (ad 0 99), .int x1, .int x2]) (n := 3) (Nat.le_of_ble_eq_true rfl)
  rw [lg_entry_eq]
  generalize (lg_sl ([.ref (ad 0 99), .int x1, .int x2]) ++ List.replicate (3 - (lg_sl ([.ref (ad 0 99), .int x1, .int x2])).length) Slot.unset).toArray = ls0 at hl0 ⊢
  have hl0 : lv_has ls0 3 [(0, .ref (ad 0 99)), (1, .int x1), (2, .int x2)] := hl0
  unfold m_X5_paint at hm
  refine lv_aload_n hx hb dX5_paint_0 rfl (lv_at hl0 0 rfl) ?_
  refine va_get (D := D) (ci := 5) (v := .ref (ad 1 99)) (C := RX5) (T := TX5) (N := 11) hx hb hW iX5 hown hK hP0 0 rfl rfl 1 (by decide) (hW _ k_309) (fun _ h => h) rfl dX5_paint_1 ?_
  refine lv_iload_n hx hb dX5_paint_4 rfl (lv_at hl0 1 rfl) ?_
  refine lv_iload_n hx hb dX5_paint_5 rfl (lv_at hl0 2 rfl) ?_
  obtain ⟨y6, hy6, hm⟩ := bn hm
  refine cVWi (As := [.int x1, .int x2]) (rest := []) (Wn := fun (uu : SV) => wX5 q ad v0 ++ wX3 q (ad 1) uu) X hP0 hD0 hS0 (fun _ h => Or.inr h) hl0.1 (c_X3_sit l D q s.heap.size (ad 1) v1 x1 x2 y6 hy6) [6, 7, 8, 9, 10, 11, 12, 13, 14, 15, 16, 17] [0, 1, 2, 3, 4, 5] [0, 1, 2, 3, 4, 5, 6, 7, 8, 9, 10, 11, 12, 13, 14, 15, 16, 17] rfl (Wr := wX5 q ad v0) rfl (by decide) (by decide) (by decide) (by decide) (fun _ => rfl) 6 rfl rfl rfl k_579 mX3_sit ⟨rfl, rfl⟩ ⟨Nat.le_of_ble_eq_true rfl, Nat.le_of_ble_eq_true rfl⟩ rfl rfl (Nat.le_of_ble_eq_true rfl) dX5_paint_6 ⟨Nat.zero_le _, Nat.zero_le _⟩ (fun H1 locs1 hP hD hS1 => ?_)
  have hP1 : va_P D cls (wX5 q ad v0 ++ wX3 q (ad 1) y6.2) H1 := hP
  have hD1 : va_D (va_A (wX5 q ad v0 ++ wX3 q (ad 1) v1) s.heap.size) (wX5 q ad v0 ++ wX3 q (ad 1) y6.2) := hD
  clear hP hD hP0 hD0 hS0
  exact eWi (Wf := fun (uu : SV) => wX5 q ad v0 ++ wX3 q (ad 1) uu) (u := y6.2) X hr hlocks hP1 hD1 hS1 hm dX5_paint_9
noncomputable def m_X5_scrape (v0 : SV) (v1 : SV) (x1 : Int32) : Option (Int32 × SV) :=
  (m_X3_hasPart v1 x1).bind (fun y5 => (if y5 = 0 then some ((-1 : Int32), v1) else (m_X3_top v1 x1).bind (fun y18 => (if y18 = (-4 : Int32) then some ((-2 : Int32), v1) else ck (inB x1 6) (ck (inB x1 6) (lett (up2 v1 7 ((x1).toNatClampNeg) ((v1 7 ((x1).toNatClampNeg)) - (1 : Int32))) (fun v4_ => some (y18, v4_))))))))
set_option maxHeartbeats 4000000 in
set_option maxRecDepth 100000 in
theorem c_X5_scrape (l : Launch) (D : va_G) (q : Nat → ClassId) (sz : Nat) (ad : Nat → Nat → Nat) (v0 : SV) (v1 : SV) (x1 : Int32) (res : Int32 × SV) (hm : m_X5_scrape v0 v1 x1 = some res) : Met l yX5_scrape (mw yX5_scrape cX5_scrape 3 (some .int)) ({ frames := 2, cells := 0, slots := 0, locals := 42 } : Room) (pcW D q (wX5 q ad v0 ++ wX3 q (ad 1) v1) sz [.ref (ad 0 99), .int x1]) (va_Qi (fun r w => r = res.1 ∧ w = res.2) (bW D q (wX5 q ad v0 ++ wX3 q (ad 1) v1) sz (fun (uu : SV) => wX5 q ad v0 ++ wX3 q (ad 1) uu)) (va_A (wX5 q ad v0 ++ wX3 q (ad 1) v1) sz)) 0 0 (va_A (wX5 q ad v0 ++ wX3 q (ad 1) v1) sz) := by
  refine Met.ofW (cc := cX5_scrape) (maxL := 3) (ret := (some .int)) (by decide) rfl ?_
  intro p e s m args below meth c s₁ B hml hv
  obtain ⟨rfl, hsz, hP0, hK, hD0⟩ := hv
  have hx := B.exec
  have hb := B.bytes
  have hr := B.returns
  have hW := mw_ws (atoms_spec (ws := mw yX5_scrape cX5_scrape 3 (some .int)) B.pre)
  have hown : s.vm.findClass RX5 = some m.cls := findClass_of_methodNamed B.named
  have hlocks := B.notSynchronized
  have X : Cx p s m [.ref (ad 0 99), .int x1].toArray c cX5_scrape 3 RX5 D q := ⟨hx, hb, hml, hown, hW, hK⟩
  subst hsz
  replace hD0 := hD0.self (sz := s.heap.size)
  have hS0 : va_S (va_A (wX5 q ad v0 ++ wX3 q (ad 1) v1) s.heap.size) s.heap s.heap [] := va_S.rf
  have hl0 := lv_entry ([.ref (ad 0 99), .int x1]) (n := 3) (Nat.le_of_ble_eq_true rfl)
  rw [lg_entry_eq]
  generalize (lg_sl ([.ref (ad 0 99), .int x1]) ++ List.replicate (3 - (lg_sl ([.ref (ad 0 99), .int x1])).length) Slot.unset).toArray = ls0 at hl0 ⊢
  have hl0 : lv_has ls0 3 [(0, .ref (ad 0 99)), (1, .int x1)] := hl0
  unfold m_X5_scrape at hm
  refine lv_aload_n hx hb dX5_scrape_0 rfl (lv_at hl0 0 rfl) ?_
  refine va_get (D := D) (ci := 5) (v := .ref (ad 1 99)) (C := RX5) (T := TX5) (N := 11) hx hb hW iX5 hown hK hP0 0 rfl rfl 1 (by decide) (hW _ k_309) (fun _ h => h) rfl dX5_scrape_1 ?_
  refine lv_iload_n hx hb dX5_scrape_4 rfl (lv_at hl0 1 rfl) ?_
  obtain ⟨y5, hy5, hm⟩ := bn hm
  refine cVRi (As := [.int x1]) (rest := []) X hP0 hl0.1 (c_X3_hasPart l D q (ad 1) v1 x1 y5 hy5) [6, 7, 8, 9, 10, 11, 12, 13, 14, 15, 16, 17] rfl 6 rfl rfl rfl k_538 mX3_hasPart ⟨rfl, rfl⟩ ⟨Nat.le_of_ble_eq_true rfl, Nat.le_of_ble_eq_true rfl⟩ rfl rfl (Nat.le_of_ble_eq_true rfl) dX5_scrape_5 ⟨Nat.zero_le _, Nat.zero_le _⟩ ?_
  refine lv_if_ne (tgt := 13) hx hb dX5_scrape_8 (by decide) (fun c8 => ?_) (fun c8 => ?_)
  · replace hm := tn hm c8
    refine lv_aload_n hx hb dX5_scrape_13 rfl (lv_at hl0 0 rfl) ?_
    refine va_get (D := D) (ci := 5) (v := .ref (ad 1 99)) (C := RX5) (T := TX5) (N := 11) hx hb hW iX5 hown hK hP0 0 rfl rfl 1 (by decide) (hW _ k_309) (fun _ h => h) rfl dX5_scrape_14 ?_
    refine lv_iload_n hx hb dX5_scrape_17 rfl (lv_at hl0 1 rfl) ?_
    obtain ⟨y18, hy18, hm⟩ := bn hm
    refine cVRi (As := [.int x1]) (rest := []) X hP0 hl0.1 (c_X3_top l D q (ad 1) v1 x1 y18 hy18) [6, 7, 8, 9, 10, 11, 12, 13, 14, 15, 16, 17] rfl 6 rfl rfl rfl k_539 mX3_top ⟨rfl, rfl⟩ ⟨Nat.le_of_ble_eq_true rfl, Nat.le_of_ble_eq_true rfl⟩ rfl rfl (Nat.le_of_ble_eq_true rfl) dX5_scrape_18 ⟨Nat.zero_le _, Nat.zero_le _⟩ ?_
    refine lv_istore_n (lv' := [(2, .int y18), (0, .ref (ad 0 99)), (1, .int x1)]) hx hb dX5_scrape_21 rfl hl0 (by decide) rfl (fun ls1 hl1 => ?_)
    clear hl0
    refine lv_iload_n hx hb dX5_scrape_22 rfl (lv_at hl1 0 rfl) ?_
    refine lv_bipush (v := (-4 : Int32)) hx hb dX5_scrape_23 (by decide) ?_
    refine lv_icmp_ne (tgt := 31) hx hb dX5_scrape_25 (by decide) (fun c25 => ?_) (fun c25 => ?_)
    · replace hm := tn hm c25
      refine lv_aload_n hx hb dX5_scrape_31 rfl (lv_at hl1 1 rfl) ?_
      refine va_get (D := D) (ci := 5) (v := .ref (ad 1 99)) (C := RX5) (T := TX5) (N := 11) hx hb hW iX5 hown hK hP0 0 rfl rfl 1 (by decide) (hW _ k_309) (fun _ h => h) rfl dX5_scrape_32 ?_
      refine va_get (D := D) (ci := 3) (v := .ref (ad 1 7)) (C := RX3) (T := TX3) (N := 17) hx hb hW iX3 hown hK hP0 6 rfl rfl 7 (by decide) (hW _ k_106) (fun _ h => h) rfl dX5_scrape_35 ?_
      refine lv_iload_n hx hb dX5_scrape_38 rfl (lv_at hl1 2 rfl) ?_
      refine lv_dup2_11 hx hb dX5_scrape_39 rfl rfl ?_
      obtain ⟨h2, hm⟩ := ckd hm
      refine va_iald (f := (v1 7)) hx hb hK hP0 8 0 rfl rfl (inB_vp h2) dX5_scrape_40 ?_
      refine lv_iconst (v := (1 : Int32)) hx hb dX5_scrape_41 (by decide) ?_
      refine lv_isub hx hb dX5_scrape_42 ?_
      obtain ⟨h3, hm⟩ := ckd hm
      refine va_iast (f := (v1 7)) hx hb hK hP0 hD0 hS0 8 0 rfl rfl (inB_vp h3) dX5_scrape_43 (fun H4 locs4 hP hD hS4 => ?_)
      obtain ⟨v4_, e4, hm⟩ := ltd hm
      have hP4 : va_P D cls (wX5 q ad v0 ++ wX3 q (ad 1) v4_) H4 := by rw [e4]; exact hP
      have hD4 : va_D (va_A (wX5 q ad v0 ++ wX3 q (ad 1) v1) s.heap.size) (wX5 q ad v0 ++ wX3 q (ad 1) v4_) := by rw [e4]; exact hD
      clear hP hD hP0 hD0 hS0
      refine lv_iload_n hx hb dX5_scrape_44 rfl (lv_at hl1 0 rfl) ?_
      exact eWi (Wf := fun (uu : SV) => wX5 q ad v0 ++ wX3 q (ad 1) uu) (u := v4_) X hr hlocks hP4 hD4 hS4 hm dX5_scrape_45
    · replace hm := tp hm c25
      refine lv_bipush (v := (-2 : Int32)) hx hb dX5_scrape_28 (by decide) ?_
      exact eWi (Wf := fun (uu : SV) => wX5 q ad v0 ++ wX3 q (ad 1) uu) (u := v1) X hr hlocks hP0 hD0 hS0 hm dX5_scrape_30
  · replace hm := tp hm c8
    refine lv_iconst (v := (-1 : Int32)) hx hb dX5_scrape_11 (by decide) ?_
    exact eWi (Wf := fun (uu : SV) => wX5 q ad v0 ++ wX3 q (ad 1) uu) (u := v1) X hr hlocks hP0 hD0 hS0 hm dX5_scrape_12
noncomputable def m_X5_exchange (n1 : Nat) (f1 : Nat → Int32) (x2 : Int32) (x3 : Int32) (x4 : Int32) : Option (Int32 × (Nat → Int32)) :=
  (m_X5_within x3 (0 : Int32) x4).bind (fun y3 => (if y3 = 0 then some ((-1 : Int32), f1) else (m_X5_within x2 (0 : Int32) ((Int32.ofNat n1) - (1 : Int32))).bind (fun y15 => (if y15 = 0 then some ((-1 : Int32), f1) else ck (inB x2 n1) (ck (inB x2 n1) (lett (upd f1 ((x2).toNatClampNeg) x3) (fun v4_ => some ((f1 ((x2).toNatClampNeg)), v4_))))))))
set_option maxHeartbeats 4000000 in
set_option maxRecDepth 100000 in
theorem c_X5_exchange (l : Launch) (D : va_G) (q : Nat → ClassId) (sz : Nat) (r1 : Nat) (n1 : Nat) (f1 : Nat → Int32) (x2 : Int32) (x3 : Int32) (x4 : Int32) (res : Int32 × (Nat → Int32)) (hm : m_X5_exchange n1 f1 x2 x3 x4 = some res) : Met l yX5_exchange (mw yX5_exchange cX5_exchange 5 (some .int)) ({ frames := 1, cells := 0, slots := 0, locals := 22 } : Room) (pcW D q ([(r1, .inl (q 0, n1, .inl f1))]) sz [.ref r1, .int x2, .int x3, .int x4]) (va_Qi (fun r w => r = res.1 ∧ w = res.2) (bW D q ([(r1, .inl (q 0, n1, .inl f1))]) sz (fun (uu : (Nat → Int32)) => [(r1, .inl (q 0, n1, .inl uu))])) (va_A ([(r1, .inl (q 0, n1, .inl f1))]) sz)) 0 0 (va_A ([(r1, .inl (q 0, n1, .inl f1))]) sz) := by
  refine Met.ofW (cc := cX5_exchange) (maxL := 5) (ret := (some .int)) (by decide) rfl ?_
  intro p e s m args below meth c s₁ B hml hv
  obtain ⟨rfl, hsz, hP0, hK, hD0⟩ := hv
  have hx := B.exec
  have hb := B.bytes
  have hr := B.returns
  have hW := mw_ws (atoms_spec (ws := mw yX5_exchange cX5_exchange 5 (some .int)) B.pre)
  have hown : s.vm.findClass RX5 = some m.cls := findClass_of_methodNamed B.named
  have hlocks := B.notSynchronized
  have X : Cx p s m [.ref r1, .int x2, .int x3, .int x4].toArray c cX5_exchange 5 RX5 D q := ⟨hx, hb, hml, hown, hW, hK⟩
  subst hsz
  replace hD0 := hD0.self (sz := s.heap.size)
  have hS0 : va_S (va_A ([(r1, .inl (q 0, n1, .inl f1))]) s.heap.size) s.heap s.heap [] := va_S.rf
  have hl0 := lv_entry ([.ref r1, .int x2, .int x3, .int x4]) (n := 5) (Nat.le_of_ble_eq_true rfl)
  rw [lg_entry_eq]
  generalize (lg_sl ([.ref r1, .int x2, .int x3, .int x4]) ++ List.replicate (5 - (lg_sl ([.ref r1, .int x2, .int x3, .int x4])).length) Slot.unset).toArray = ls0 at hl0 ⊢
  have hl0 : lv_has ls0 5 [(0, .ref r1), (1, .int x2), (2, .int x3), (3, .int x4)] := hl0
  unfold m_X5_exchange at hm
  refine lv_iload_n hx hb dX5_exchange_0 rfl (lv_at hl0 2 rfl) ?_
  refine lv_iconst (v := (0 : Int32)) hx hb dX5_exchange_1 (by decide) ?_
  refine lv_iload_n hx hb dX5_exchange_2 rfl (lv_at hl0 3 rfl) ?_
  obtain ⟨y3, hy3, hm⟩ := bn hm
  refine cSRi (As := [.int x3, .int (0 : Int32), .int x4]) (rest := []) X hP0 hl0.1 (c_X5_within l D q x3 (0 : Int32) x4 y3 hy3) [] rfl k_346 mX5_within ⟨rfl, rfl⟩ ⟨Nat.le_of_ble_eq_true rfl, Nat.le_of_ble_eq_true rfl⟩ rfl rfl (Nat.le_of_ble_eq_true rfl) dX5_exchange_3 ⟨Nat.zero_le _, Nat.zero_le _⟩ ?_
  refine lv_if_eq (tgt := 21) hx hb dX5_exchange_6 (by decide) (fun c6 => ?_) (fun c6 => ?_)
  · replace hm := tp hm c6
    refine lv_iconst (v := (-1 : Int32)) hx hb dX5_exchange_21 (by decide) ?_
    exact eWi (Wf := fun (uu : (Nat → Int32)) => [(r1, .inl (q 0, n1, .inl uu))]) (u := f1) X hr hlocks hP0 hD0 hS0 hm dX5_exchange_22
  · replace hm := tn hm c6
    refine lv_iload_n hx hb dX5_exchange_9 rfl (lv_at hl0 1 rfl) ?_
    refine lv_iconst (v := (0 : Int32)) hx hb dX5_exchange_10 (by decide) ?_
    refine lv_aload_n hx hb dX5_exchange_11 rfl (lv_at hl0 0 rfl) ?_
    refine va_alen (v := (Int32.ofNat n1)) hx hb hK hP0 0 0 rfl rfl rfl dX5_exchange_12 ?_
    refine lv_iconst (v := (1 : Int32)) hx hb dX5_exchange_13 (by decide) ?_
    refine lv_isub hx hb dX5_exchange_14 ?_
    obtain ⟨y15, hy15, hm⟩ := bn hm
    refine cSRi (As := [.int x2, .int (0 : Int32), .int ((Int32.ofNat n1) - (1 : Int32))]) (rest := []) X hP0 hl0.1 (c_X5_within l D q x2 (0 : Int32) ((Int32.ofNat n1) - (1 : Int32)) y15 hy15) [] rfl k_346 mX5_within ⟨rfl, rfl⟩ ⟨Nat.le_of_ble_eq_true rfl, Nat.le_of_ble_eq_true rfl⟩ rfl rfl (Nat.le_of_ble_eq_true rfl) dX5_exchange_15 ⟨Nat.zero_le _, Nat.zero_le _⟩ ?_
    refine lv_if_ne (tgt := 23) hx hb dX5_exchange_18 (by decide) (fun c18 => ?_) (fun c18 => ?_)
    · replace hm := tn hm c18
      refine lv_aload_n hx hb dX5_exchange_23 rfl (lv_at hl0 0 rfl) ?_
      refine lv_iload_n hx hb dX5_exchange_24 rfl (lv_at hl0 1 rfl) ?_
      obtain ⟨h1, hm⟩ := ckd hm
      refine va_iald (f := f1) hx hb hK hP0 0 0 rfl rfl (inB_vp h1) dX5_exchange_25 ?_
      refine lv_istore (lv' := [(4, .int (f1 ((x2).toNatClampNeg))), (0, .ref r1), (1, .int x2), (2, .int x3), (3, .int x4)]) hx hb dX5_exchange_26 hl0 (by decide) rfl (fun ls2 hl2 => ?_)
      clear hl0
      refine lv_aload_n hx hb dX5_exchange_28 rfl (lv_at hl2 1 rfl) ?_
      refine lv_iload_n hx hb dX5_exchange_29 rfl (lv_at hl2 2 rfl) ?_
      refine lv_iload_n hx hb dX5_exchange_30 rfl (lv_at hl2 3 rfl) ?_
      obtain ⟨h3, hm⟩ := ckd hm
      refine va_iast (f := f1) hx hb hK hP0 hD0 hS0 0 0 rfl rfl (inB_vp h3) dX5_exchange_31 (fun H4 locs4 hP hD hS4 => ?_)
      obtain ⟨v4_, e4, hm⟩ := ltd hm
      have hP4 : va_P D cls ([(r1, .inl (q 0, n1, .inl v4_))]) H4 := by rw [e4]; exact hP
      have hD4 : va_D (va_A ([(r1, .inl (q 0, n1, .inl f1))]) s.heap.size) ([(r1, .inl (q 0, n1, .inl v4_))]) := by rw [e4]; exact hD
      clear hP hD hP0 hD0 hS0
      refine lv_iload hx hb dX5_exchange_32 (lv_at hl2 0 rfl) ?_
      exact eWi (Wf := fun (uu : (Nat → Int32)) => [(r1, .inl (q 0, n1, .inl uu))]) (u := v4_) X hr hlocks hP4 hD4 hS4 hm dX5_exchange_34
    · replace hm := tp hm c18
      refine lv_iconst (v := (-1 : Int32)) hx hb dX5_exchange_21 (by decide) ?_
      exact eWi (Wf := fun (uu : (Nat → Int32)) => [(r1, .inl (q 0, n1, .inl uu))]) (u := f1) X hr hlocks hP0 hD0 hS0 hm dX5_exchange_22
noncomputable def m_X5_alter (v0 : SV) (v1 : SV) (x1 : Int32) (x2 : Int32) (x3 : Int32) : Option (Int32 × SV) :=
  (m_X3_hasSitter v1 x1).bind (fun y5 => (if y5 = 0 then some ((-1 : Int32), v1) else (if x2 = (0 : Int32) then (m_X5_exchange 5 (v1 9) x1 x3 (3 : Int32)).bind (fun y54 => lett (upr v1 9 y54.2) (fun v1_ => some (y54.1, v1_))) else (if x2 = (1 : Int32) then (m_X5_exchange 5 (v1 10) x1 x3 (5 : Int32)).bind (fun y68 => lett (upr v1 10 y68.2) (fun v2_ => some (y68.1, v2_))) else (if x2 = (2 : Int32) then (m_X5_exchange 5 (v1 11) x1 x3 (9 : Int32)).bind (fun y83 => lett (upr v1 11 y83.2) (fun v3_ => some (y83.1, v3_))) else (if x2 = (3 : Int32) then (m_X5_exchange 5 (v1 12) x1 x3 (127 : Int32)).bind (fun y98 => lett (upr v1 12 y98.2) (fun v4_ => some (y98.1, v4_))) else some ((-1 : Int32), v1)))))))
set_option maxHeartbeats 4000000 in
set_option maxRecDepth 100000 in
theorem c_X5_alter (l : Launch) (D : va_G) (q : Nat → ClassId) (sz : Nat) (ad : Nat → Nat → Nat) (v0 : SV) (v1 : SV) (x1 : Int32) (x2 : Int32) (x3 : Int32) (res : Int32 × SV) (hm : m_X5_alter v0 v1 x1 x2 x3 = some res) : Met l yX5_alter (mw yX5_alter cX5_alter 4 (some .int)) ({ frames := 2, cells := 0, slots := 0, locals := 46 } : Room) (pcW D q (wX5 q ad v0 ++ wX3 q (ad 1) v1) sz [.ref (ad 0 99), .int x1, .int x2, .int x3]) (va_Qi (fun r w => r = res.1 ∧ w = res.2) (bW D q (wX5 q ad v0 ++ wX3 q (ad 1) v1) sz (fun (uu : SV) => wX5 q ad v0 ++ wX3 q (ad 1) uu)) (va_A (wX5 q ad v0 ++ wX3 q (ad 1) v1) sz)) 0 0 (va_A (wX5 q ad v0 ++ wX3 q (ad 1) v1) sz) := by
  refine Met.ofW (cc := cX5_alter) (maxL := 4) (ret := (some .int)) (by decide) rfl ?_
  intro p e s m args below meth c s₁ B hml hv
  obtain ⟨rfl, hsz, hP0, hK, hD0⟩ := hv
  have hx := B.exec
  have hb := B.bytes
  have hr := B.returns
  have hW := mw_ws (atoms_spec (ws := mw yX5_alter cX5_alter 4 (some .int)) B.pre)
  have hown : s.vm.findClass RX5 = some m.cls := findClass_of_methodNamed B.named
  have hlocks := B.notSynchronized
  have X : Cx p s m [.ref (ad 0 99), .int x1, .int x2, .int x3].toArray c cX5_alter 4 RX5 D q := ⟨hx, hb, hml, hown, hW, hK⟩
  subst hsz
  replace hD0 := hD0.self (sz := s.heap.size)
  have hS0 : va_S (va_A (wX5 q ad v0 ++ wX3 q (ad 1) v1) s.heap.size) s.heap s.heap [] := va_S.rf
  have hl0 := lv_entry ([.ref (ad 0 99), .int x1, .int x2, .int x3]) (n := 4) (Nat.le_of_ble_eq_true rfl)
  rw [lg_entry_eq]
  generalize (lg_sl ([.ref (ad 0 99), .int x1, .int x2, .int x3]) ++ List.replicate (4 - (lg_sl ([.ref (ad 0 99), .int x1, .int x2, .int x3])).length) Slot.unset).toArray = ls0 at hl0 ⊢
  have hl0 : lv_has ls0 4 [(0, .ref (ad 0 99)), (1, .int x1), (2, .int x2), (3, .int x3)] := hl0
  unfold m_X5_alter at hm
  refine lv_aload_n hx hb dX5_alter_0 rfl (lv_at hl0 0 rfl) ?_
  refine va_get (D := D) (ci := 5) (v := .ref (ad 1 99)) (C := RX5) (T := TX5) (N := 11) hx hb hW iX5 hown hK hP0 0 rfl rfl 1 (by decide) (hW _ k_309) (fun _ h => h) rfl dX5_alter_1 ?_
  refine lv_iload_n hx hb dX5_alter_4 rfl (lv_at hl0 1 rfl) ?_
  obtain ⟨y5, hy5, hm⟩ := bn hm
  refine cVRi (As := [.int x1]) (rest := []) X hP0 hl0.1 (c_X3_hasSitter l D q (ad 1) v1 x1 y5 hy5) [6, 7, 8, 9, 10, 11, 12, 13, 14, 15, 16, 17] rfl 6 rfl rfl rfl k_548 mX3_hasSitter ⟨rfl, rfl⟩ ⟨Nat.le_of_ble_eq_true rfl, Nat.le_of_ble_eq_true rfl⟩ rfl rfl (Nat.le_of_ble_eq_true rfl) dX5_alter_5 ⟨Nat.zero_le _, Nat.zero_le _⟩ ?_
  refine lv_if_ne (tgt := 13) hx hb dX5_alter_8 (by decide) (fun c8 => ?_) (fun c8 => ?_)
  · replace hm := tn hm c8
    refine lv_iload_n hx hb dX5_alter_13 rfl (lv_at hl0 2 rfl) ?_
    by_cases c14_0 : x2 = (0 : Int32)
    · replace hm := tp hm c14_0
      refine lv_tableIn (off := 30) (tgt := 44) hx hb dX5_alter_14 (by rw [c14_0]; decide) (by rw [c14_0]; decide) (by rw [c14_0]; rfl) (by decide) ?_
      refine lv_aload_n hx hb dX5_alter_44 rfl (lv_at hl0 0 rfl) ?_
      refine va_get (D := D) (ci := 5) (v := .ref (ad 1 99)) (C := RX5) (T := TX5) (N := 11) hx hb hW iX5 hown hK hP0 0 rfl rfl 1 (by decide) (hW _ k_309) (fun _ h => h) rfl dX5_alter_45 ?_
      refine va_get (D := D) (ci := 3) (v := .ref (ad 1 9)) (C := RX3) (T := TX3) (N := 17) hx hb hW iX3 hown hK hP0 6 rfl rfl 9 (by decide) (hW _ k_112) (fun _ h => h) rfl dX5_alter_48 ?_
      refine lv_iload_n hx hb dX5_alter_51 rfl (lv_at hl0 1 rfl) ?_
      refine lv_iload_n hx hb dX5_alter_52 rfl (lv_at hl0 3 rfl) ?_
      refine lv_iconst (v := (3 : Int32)) hx hb dX5_alter_53 (by decide) ?_
      obtain ⟨y54, hy54, hm⟩ := bn hm
      refine cSWi (As := [.ref (ad 1 9), .int x1, .int x3, .int (3 : Int32)]) (rest := []) (Wn := fun (uu : (Nat → Int32)) => wX5 q ad v0 ++ wX3 q (ad 1) (upr v1 9 uu)) X hP0 hD0 hS0 (fun _ h => Or.inr h) hl0.1 (c_X5_exchange l D q s.heap.size (ad 1 9) 5 (v1 9) x1 x3 (3 : Int32) y54 hy54) [10] [0, 1, 2, 3, 4, 5, 6, 7, 8, 9, 11, 12, 13, 14, 15, 16, 17] [0, 1, 2, 3, 4, 5, 6, 7, 8, 9, 17, 10, 11, 12, 13, 14, 15, 16] rfl (Wr := [0, 1, 2, 3, 4, 5, 6, 7, 8, 9, 11, 12, 13, 14, 15, 16, 17].filterMap (fun i => (wX5 q ad v0 ++ wX3 q (ad 1) v1)[i]?)) rfl (by decide) (by decide) (by decide) (by decide) (fun _ => rfl) k_593 mX5_exchange ⟨rfl, rfl⟩ ⟨Nat.le_of_ble_eq_true rfl, Nat.le_of_ble_eq_true rfl⟩ rfl rfl (Nat.le_of_ble_eq_true rfl) dX5_alter_54 ⟨Nat.zero_le _, Nat.zero_le _⟩ (fun H1 locs1 hP hD hS1 => ?_)
      obtain ⟨v1_, e1, hm⟩ := ltd hm
      have hP1 : va_P D cls (wX5 q ad v0 ++ wX3 q (ad 1) v1_) H1 := by rw [e1]; exact hP
      have hD1 : va_D (va_A (wX5 q ad v0 ++ wX3 q (ad 1) v1) s.heap.size) (wX5 q ad v0 ++ wX3 q (ad 1) v1_) := by rw [e1]; exact hD
      clear hP hD hP0 hD0 hS0
      exact eWi (Wf := fun (uu : SV) => wX5 q ad v0 ++ wX3 q (ad 1) uu) (u := v1_) X hr hlocks hP1 hD1 hS1 hm dX5_alter_57
    · replace hm := tn hm c14_0
      by_cases c14_1 : x2 = (1 : Int32)
      · replace hm := tp hm c14_1
        refine lv_tableIn (off := 44) (tgt := 58) hx hb dX5_alter_14 (by rw [c14_1]; decide) (by rw [c14_1]; decide) (by rw [c14_1]; rfl) (by decide) ?_
        refine lv_aload_n hx hb dX5_alter_58 rfl (lv_at hl0 0 rfl) ?_
        refine va_get (D := D) (ci := 5) (v := .ref (ad 1 99)) (C := RX5) (T := TX5) (N := 11) hx hb hW iX5 hown hK hP0 0 rfl rfl 1 (by decide) (hW _ k_309) (fun _ h => h) rfl dX5_alter_59 ?_
        refine va_get (D := D) (ci := 3) (v := .ref (ad 1 10)) (C := RX3) (T := TX3) (N := 17) hx hb hW iX3 hown hK hP0 6 rfl rfl 10 (by decide) (hW _ k_115) (fun _ h => h) rfl dX5_alter_62 ?_
        refine lv_iload_n hx hb dX5_alter_65 rfl (lv_at hl0 1 rfl) ?_
        refine lv_iload_n hx hb dX5_alter_66 rfl (lv_at hl0 3 rfl) ?_
        refine lv_iconst (v := (5 : Int32)) hx hb dX5_alter_67 (by decide) ?_
        obtain ⟨y68, hy68, hm⟩ := bn hm
        refine cSWi (As := [.ref (ad 1 10), .int x1, .int x3, .int (5 : Int32)]) (rest := []) (Wn := fun (uu : (Nat → Int32)) => wX5 q ad v0 ++ wX3 q (ad 1) (upr v1 10 uu)) X hP0 hD0 hS0 (fun _ h => Or.inr h) hl0.1 (c_X5_exchange l D q s.heap.size (ad 1 10) 5 (v1 10) x1 x3 (5 : Int32) y68 hy68) [11] [0, 1, 2, 3, 4, 5, 6, 7, 8, 9, 10, 12, 13, 14, 15, 16, 17] [0, 1, 2, 3, 4, 5, 6, 7, 8, 9, 10, 17, 11, 12, 13, 14, 15, 16] rfl (Wr := [0, 1, 2, 3, 4, 5, 6, 7, 8, 9, 10, 12, 13, 14, 15, 16, 17].filterMap (fun i => (wX5 q ad v0 ++ wX3 q (ad 1) v1)[i]?)) rfl (by decide) (by decide) (by decide) (by decide) (fun _ => rfl) k_593 mX5_exchange ⟨rfl, rfl⟩ ⟨Nat.le_of_ble_eq_true rfl, Nat.le_of_ble_eq_true rfl⟩ rfl rfl (Nat.le_of_ble_eq_true rfl) dX5_alter_68 ⟨Nat.zero_le _, Nat.zero_le _⟩ (fun H2 locs2 hP hD hS2 => ?_)
        obtain ⟨v2_, e2, hm⟩ := ltd hm
        have hP2 : va_P D cls (wX5 q ad v0 ++ wX3 q (ad 1) v2_) H2 := by rw [e2]; exact hP
        have hD2 : va_D (va_A (wX5 q ad v0 ++ wX3 q (ad 1) v1) s.heap.size) (wX5 q ad v0 ++ wX3 q (ad 1) v2_) := by rw [e2]; exact hD
        clear hP hD hP0 hD0 hS0
        exact eWi (Wf := fun (uu : SV) => wX5 q ad v0 ++ wX3 q (ad 1) uu) (u := v2_) X hr hlocks hP2 hD2 hS2 hm dX5_alter_71
      · replace hm := tn hm c14_1
        by_cases c14_2 : x2 = (2 : Int32)
        · replace hm := tp hm c14_2
          refine lv_tableIn (off := 58) (tgt := 72) hx hb dX5_alter_14 (by rw [c14_2]; decide) (by rw [c14_2]; decide) (by rw [c14_2]; rfl) (by decide) ?_
          refine lv_aload_n hx hb dX5_alter_72 rfl (lv_at hl0 0 rfl) ?_
          refine va_get (D := D) (ci := 5) (v := .ref (ad 1 99)) (C := RX5) (T := TX5) (N := 11) hx hb hW iX5 hown hK hP0 0 rfl rfl 1 (by decide) (hW _ k_309) (fun _ h => h) rfl dX5_alter_73 ?_
          refine va_get (D := D) (ci := 3) (v := .ref (ad 1 11)) (C := RX3) (T := TX3) (N := 17) hx hb hW iX3 hown hK hP0 6 rfl rfl 11 (by decide) (hW _ k_119) (fun _ h => h) rfl dX5_alter_76 ?_
          refine lv_iload_n hx hb dX5_alter_79 rfl (lv_at hl0 1 rfl) ?_
          refine lv_iload_n hx hb dX5_alter_80 rfl (lv_at hl0 3 rfl) ?_
          refine lv_bipush (v := (9 : Int32)) hx hb dX5_alter_81 (by decide) ?_
          obtain ⟨y83, hy83, hm⟩ := bn hm
          refine cSWi (As := [.ref (ad 1 11), .int x1, .int x3, .int (9 : Int32)]) (rest := []) (Wn := fun (uu : (Nat → Int32)) => wX5 q ad v0 ++ wX3 q (ad 1) (upr v1 11 uu)) X hP0 hD0 hS0 (fun _ h => Or.inr h) hl0.1 (c_X5_exchange l D q s.heap.size (ad 1 11) 5 (v1 11) x1 x3 (9 : Int32) y83 hy83) [12] [0, 1, 2, 3, 4, 5, 6, 7, 8, 9, 10, 11, 13, 14, 15, 16, 17] [0, 1, 2, 3, 4, 5, 6, 7, 8, 9, 10, 11, 17, 12, 13, 14, 15, 16] rfl (Wr := [0, 1, 2, 3, 4, 5, 6, 7, 8, 9, 10, 11, 13, 14, 15, 16, 17].filterMap (fun i => (wX5 q ad v0 ++ wX3 q (ad 1) v1)[i]?)) rfl (by decide) (by decide) (by decide) (by decide) (fun _ => rfl) k_593 mX5_exchange ⟨rfl, rfl⟩ ⟨Nat.le_of_ble_eq_true rfl, Nat.le_of_ble_eq_true rfl⟩ rfl rfl (Nat.le_of_ble_eq_true rfl) dX5_alter_83 ⟨Nat.zero_le _, Nat.zero_le _⟩ (fun H3 locs3 hP hD hS3 => ?_)
          obtain ⟨v3_, e3, hm⟩ := ltd hm
          have hP3 : va_P D cls (wX5 q ad v0 ++ wX3 q (ad 1) v3_) H3 := by rw [e3]; exact hP
          have hD3 : va_D (va_A (wX5 q ad v0 ++ wX3 q (ad 1) v1) s.heap.size) (wX5 q ad v0 ++ wX3 q (ad 1) v3_) := by rw [e3]; exact hD
          clear hP hD hP0 hD0 hS0
          exact eWi (Wf := fun (uu : SV) => wX5 q ad v0 ++ wX3 q (ad 1) uu) (u := v3_) X hr hlocks hP3 hD3 hS3 hm dX5_alter_86
        · replace hm := tn hm c14_2
          by_cases c14_3 : x2 = (3 : Int32)
          · replace hm := tp hm c14_3
            refine lv_tableIn (off := 73) (tgt := 87) hx hb dX5_alter_14 (by rw [c14_3]; decide) (by rw [c14_3]; decide) (by rw [c14_3]; rfl) (by decide) ?_
            refine lv_aload_n hx hb dX5_alter_87 rfl (lv_at hl0 0 rfl) ?_
            refine va_get (D := D) (ci := 5) (v := .ref (ad 1 99)) (C := RX5) (T := TX5) (N := 11) hx hb hW iX5 hown hK hP0 0 rfl rfl 1 (by decide) (hW _ k_309) (fun _ h => h) rfl dX5_alter_88 ?_
            refine va_get (D := D) (ci := 3) (v := .ref (ad 1 12)) (C := RX3) (T := TX3) (N := 17) hx hb hW iX3 hown hK hP0 6 rfl rfl 12 (by decide) (hW _ k_122) (fun _ h => h) rfl dX5_alter_91 ?_
            refine lv_iload_n hx hb dX5_alter_94 rfl (lv_at hl0 1 rfl) ?_
            refine lv_iload_n hx hb dX5_alter_95 rfl (lv_at hl0 3 rfl) ?_
            refine lv_bipush (v := (127 : Int32)) hx hb dX5_alter_96 (by decide) ?_
            obtain ⟨y98, hy98, hm⟩ := bn hm
            refine cSWi (As := [.ref (ad 1 12), .int x1, .int x3, .int (127 : Int32)]) (rest := []) (Wn := fun (uu : (Nat → Int32)) => wX5 q ad v0 ++ wX3 q (ad 1) (upr v1 12 uu)) X hP0 hD0 hS0 (fun _ h => Or.inr h) hl0.1 (c_X5_exchange l D q s.heap.size (ad 1 12) 5 (v1 12) x1 x3 (127 : Int32) y98 hy98) [13] [0, 1, 2, 3, 4, 5, 6, 7, 8, 9, 10, 11, 12, 14, 15, 16, 17] [0, 1, 2, 3, 4, 5, 6, 7, 8, 9, 10, 11, 12, 17, 13, 14, 15, 16] rfl (Wr := [0, 1, 2, 3, 4, 5, 6, 7, 8, 9, 10, 11, 12, 14, 15, 16, 17].filterMap (fun i => (wX5 q ad v0 ++ wX3 q (ad 1) v1)[i]?)) rfl (by decide) (by decide) (by decide) (by decide) (fun _ => rfl) k_593 mX5_exchange ⟨rfl, rfl⟩ ⟨Nat.le_of_ble_eq_true rfl, Nat.le_of_ble_eq_true rfl⟩ rfl rfl (Nat.le_of_ble_eq_true rfl) dX5_alter_98 ⟨Nat.zero_le _, Nat.zero_le _⟩ (fun H4 locs4 hP hD hS4 => ?_)
            obtain ⟨v4_, e4, hm⟩ := ltd hm
            have hP4 : va_P D cls (wX5 q ad v0 ++ wX3 q (ad 1) v4_) H4 := by rw [e4]; exact hP
            have hD4 : va_D (va_A (wX5 q ad v0 ++ wX3 q (ad 1) v1) s.heap.size) (wX5 q ad v0 ++ wX3 q (ad 1) v4_) := by rw [e4]; exact hD
            clear hP hD hP0 hD0 hS0
            exact eWi (Wf := fun (uu : SV) => wX5 q ad v0 ++ wX3 q (ad 1) uu) (u := v4_) X hr hlocks hP4 hD4 hS4 hm dX5_alter_101
          · replace hm := tn hm c14_3
            have hk14 : x2.toInt < 0 ∨ 3 < x2.toInt := by
              have g0 := lv_neT c14_0 (show ((0 : Int32)).toInt = 0 from rfl)
              have g1 := lv_neT c14_1 (show ((1 : Int32)).toInt = 1 from rfl)
              have g2 := lv_neT c14_2 (show ((2 : Int32)).toInt = 2 from rfl)
              have g3 := lv_neT c14_3 (show ((3 : Int32)).toInt = 3 from rfl)
              omega
            refine lv_tableOut (tgt := 102) hx hb dX5_alter_14 hk14 (by decide) ?_
            refine lv_iconst (v := (-1 : Int32)) hx hb dX5_alter_102 (by decide) ?_
            exact eWi (Wf := fun (uu : SV) => wX5 q ad v0 ++ wX3 q (ad 1) uu) (u := v1) X hr hlocks hP0 hD0 hS0 hm dX5_alter_103
  · replace hm := tp hm c8
    refine lv_iconst (v := (-1 : Int32)) hx hb dX5_alter_11 (by decide) ?_
    exact eWi (Wf := fun (uu : SV) => wX5 q ad v0 ++ wX3 q (ad 1) uu) (u := v1) X hr hlocks hP0 hD0 hS0 hm dX5_alter_12
noncomputable def m_X5_worth (v0 : SV) (v1 : SV) (x1 : Int32) (x2 : Int32) : Option (Int32 × SV) :=
  (m_X3_hasPart v1 x1).bind (fun y5 => (if y5 = 0 then some ((-1 : Int32), v1) else (m_X5_exchange 6 (v1 6) x1 x2 (9 : Int32)).bind (fun y22 => lett (upr v1 6 y22.2) (fun v1_ => some (y22.1, v1_)))))
set_option maxHeartbeats 4000000 in
set_option maxRecDepth 100000 in
theorem c_X5_worth (l : Launch) (D : va_G) (q : Nat → ClassId) (sz : Nat) (ad : Nat → Nat → Nat) (v0 : SV) (v1 : SV) (x1 : Int32) (x2 : Int32) (res : Int32 × SV) (hm : m_X5_worth v0 v1 x1 x2 = some res) : Met l yX5_worth (mw yX5_worth cX5_worth 3 (some .int)) ({ frames := 2, cells := 0, slots := 0, locals := 46 } : Room) (pcW D q (wX5 q ad v0 ++ wX3 q (ad 1) v1) sz [.ref (ad 0 99), .int x1, .int x2]) (va_Qi (fun r w => r = res.1 ∧ w = res.2) (bW D q (wX5 q ad v0 ++ wX3 q (ad 1) v1) sz (fun (uu : SV) => wX5 q ad v0 ++ wX3 q (ad 1) uu)) (va_A (wX5 q ad v0 ++ wX3 q (ad 1) v1) sz)) 0 0 (va_A (wX5 q ad v0 ++ wX3 q (ad 1) v1) sz) := by
  refine Met.ofW (cc := cX5_worth) (maxL := 3) (ret := (some .int)) (by decide) rfl ?_
  intro p e s m args below meth c s₁ B hml hv
  obtain ⟨rfl, hsz, hP0, hK, hD0⟩ := hv
  have hx := B.exec
  have hb := B.bytes
  have hr := B.returns
  have hW := mw_ws (atoms_spec (ws := mw yX5_worth cX5_worth 3 (some .int)) B.pre)
  have hown : s.vm.findClass RX5 = some m.cls := findClass_of_methodNamed B.named
  have hlocks := B.notSynchronized
  have X : Cx p s m [.ref (ad 0 99), .int x1, .int x2].toArray c cX5_worth 3 RX5 D q := ⟨hx, hb, hml, hown, hW, hK⟩
  subst hsz
  replace hD0 := hD0.self (sz := s.heap.size)
  have hS0 : va_S (va_A (wX5 q ad v0 ++ wX3 q (ad 1) v1) s.heap.size) s.heap s.heap [] := va_S.rf
  have hl0 := lv_entry ([.ref (ad 0 99), .int x1, .int x2]) (n := 3) (Nat.le_of_ble_eq_true rfl)
  rw [lg_entry_eq]
  generalize (lg_sl ([.ref (ad 0 99), .int x1, .int x2]) ++ List.replicate (3 - (lg_sl ([.ref (ad 0 99), .int x1, .int x2])).length) Slot.unset).toArray = ls0 at hl0 ⊢
  have hl0 : lv_has ls0 3 [(0, .ref (ad 0 99)), (1, .int x1), (2, .int x2)] := hl0
  unfold m_X5_worth at hm
  refine lv_aload_n hx hb dX5_worth_0 rfl (lv_at hl0 0 rfl) ?_
  refine va_get (D := D) (ci := 5) (v := .ref (ad 1 99)) (C := RX5) (T := TX5) (N := 11) hx hb hW iX5 hown hK hP0 0 rfl rfl 1 (by decide) (hW _ k_309) (fun _ h => h) rfl dX5_worth_1 ?_
  refine lv_iload_n hx hb dX5_worth_4 rfl (lv_at hl0 1 rfl) ?_
  obtain ⟨y5, hy5, hm⟩ := bn hm
  refine cVRi (As := [.int x1]) (rest := []) X hP0 hl0.1 (c_X3_hasPart l D q (ad 1) v1 x1 y5 hy5) [6, 7, 8, 9, 10, 11, 12, 13, 14, 15, 16, 17] rfl 6 rfl rfl rfl k_538 mX3_hasPart ⟨rfl, rfl⟩ ⟨Nat.le_of_ble_eq_true rfl, Nat.le_of_ble_eq_true rfl⟩ rfl rfl (Nat.le_of_ble_eq_true rfl) dX5_worth_5 ⟨Nat.zero_le _, Nat.zero_le _⟩ ?_
  refine lv_if_eq (tgt := 28) hx hb dX5_worth_8 (by decide) (fun c8 => ?_) (fun c8 => ?_)
  · replace hm := tp hm c8
    refine lv_iconst (v := (-1 : Int32)) hx hb dX5_worth_28 (by decide) ?_
    exact eWi (Wf := fun (uu : SV) => wX5 q ad v0 ++ wX3 q (ad 1) uu) (u := v1) X hr hlocks hP0 hD0 hS0 hm dX5_worth_29
  · replace hm := tn hm c8
    refine lv_aload_n hx hb dX5_worth_11 rfl (lv_at hl0 0 rfl) ?_
    refine va_get (D := D) (ci := 5) (v := .ref (ad 1 99)) (C := RX5) (T := TX5) (N := 11) hx hb hW iX5 hown hK hP0 0 rfl rfl 1 (by decide) (hW _ k_309) (fun _ h => h) rfl dX5_worth_12 ?_
    refine va_get (D := D) (ci := 3) (v := .ref (ad 1 6)) (C := RX3) (T := TX3) (N := 17) hx hb hW iX3 hown hK hP0 6 rfl rfl 6 (by decide) (hW _ k_103) (fun _ h => h) rfl dX5_worth_15 ?_
    refine lv_iload_n hx hb dX5_worth_18 rfl (lv_at hl0 1 rfl) ?_
    refine lv_iload_n hx hb dX5_worth_19 rfl (lv_at hl0 2 rfl) ?_
    refine lv_bipush (v := (9 : Int32)) hx hb dX5_worth_20 (by decide) ?_
    obtain ⟨y22, hy22, hm⟩ := bn hm
    refine cSWi (As := [.ref (ad 1 6), .int x1, .int x2, .int (9 : Int32)]) (rest := []) (Wn := fun (uu : (Nat → Int32)) => wX5 q ad v0 ++ wX3 q (ad 1) (upr v1 6 uu)) X hP0 hD0 hS0 (fun _ h => Or.inr h) hl0.1 (c_X5_exchange l D q s.heap.size (ad 1 6) 6 (v1 6) x1 x2 (9 : Int32) y22 hy22) [7] [0, 1, 2, 3, 4, 5, 6, 8, 9, 10, 11, 12, 13, 14, 15, 16, 17] [0, 1, 2, 3, 4, 5, 6, 17, 7, 8, 9, 10, 11, 12, 13, 14, 15, 16] rfl (Wr := [0, 1, 2, 3, 4, 5, 6, 8, 9, 10, 11, 12, 13, 14, 15, 16, 17].filterMap (fun i => (wX5 q ad v0 ++ wX3 q (ad 1) v1)[i]?)) rfl (by decide) (by decide) (by decide) (by decide) (fun _ => rfl) k_593 mX5_exchange ⟨rfl, rfl⟩ ⟨Nat.le_of_ble_eq_true rfl, Nat.le_of_ble_eq_true rfl⟩ rfl rfl (Nat.le_of_ble_eq_true rfl) dX5_worth_22 ⟨Nat.zero_le _, Nat.zero_le _⟩ (fun H1 locs1 hP hD hS1 => ?_)
    obtain ⟨v1_, e1, hm⟩ := ltd hm
    have hP1 : va_P D cls (wX5 q ad v0 ++ wX3 q (ad 1) v1_) H1 := by rw [e1]; exact hP
    have hD1 : va_D (va_A (wX5 q ad v0 ++ wX3 q (ad 1) v1) s.heap.size) (wX5 q ad v0 ++ wX3 q (ad 1) v1_) := by rw [e1]; exact hD
    clear hP hD hP0 hD0 hS0
    refine lv_goto (tgt := 29) hx hb dX5_worth_25 (by decide) ?_
    exact eWi (Wf := fun (uu : SV) => wX5 q ad v0 ++ wX3 q (ad 1) uu) (u := v1_) X hr hlocks hP1 hD1 hS1 hm dX5_worth_29
noncomputable def m_X5_like (v0 : SV) (v1 : SV) (x1 : Int32) (x2 : Int32) : Option (Int32) :=
  (m_X3_hasSitter v1 x1).bind (fun y5 => (if y5 = 0 then some (-1 : Int32) else (m_X3_hasSitter v1 x2).bind (fun y16 => (if y16 = 0 then some (-1 : Int32) else (m_X3_areLike v1 x1 x2).bind (fun y30 => (if y30 = 0 then some (0 : Int32) else some (1 : Int32)))))))
set_option maxHeartbeats 4000000 in
set_option maxRecDepth 100000 in
theorem c_X5_like (l : Launch) (D : va_G) (q : Nat → ClassId) (ad : Nat → Nat → Nat) (v0 : SV) (v1 : SV) (x1 : Int32) (x2 : Int32) (res : Int32) (hm : m_X5_like v0 v1 x1 x2 = some res) : Met l yX5_like (mw yX5_like cX5_like 3 (some .int)) ({ frames := 3, cells := 0, slots := 0, locals := 66 } : Room) (pcR D q (wX5 q ad v0 ++ wX3 q (ad 1) v1) [.ref (ad 0 99), .int x1, .int x2]) (vp_Si (fun x => x = res)) 0 0 (fun _ => False) := by
  refine Met.ofW (cc := cX5_like) (maxL := 3) (ret := (some .int)) (by decide) rfl ?_
  intro p e s m args below meth c s₁ B hml hv
  obtain ⟨rfl, hP0, hK⟩ := hv
  have hx := B.exec
  have hb := B.bytes
  have hr := B.returns
  have hW := mw_ws (atoms_spec (ws := mw yX5_like cX5_like 3 (some .int)) B.pre)
  have hown : s.vm.findClass RX5 = some m.cls := findClass_of_methodNamed B.named
  have hlocks := B.notSynchronized
  have X : Cx p s m [.ref (ad 0 99), .int x1, .int x2].toArray c cX5_like 3 RX5 D q := ⟨hx, hb, hml, hown, hW, hK⟩
  have hl0 := lv_entry ([.ref (ad 0 99), .int x1, .int x2]) (n := 3) (Nat.le_of_ble_eq_true rfl)
  rw [lg_entry_eq]
  generalize (lg_sl ([.ref (ad 0 99), .int x1, .int x2]) ++ List.replicate (3 - (lg_sl ([.ref (ad 0 99), .int x1, .int x2])).length) Slot.unset).toArray = ls0 at hl0 ⊢
  have hl0 : lv_has ls0 3 [(0, .ref (ad 0 99)), (1, .int x1), (2, .int x2)] := hl0
  unfold m_X5_like at hm
  refine lv_aload_n hx hb dX5_like_0 rfl (lv_at hl0 0 rfl) ?_
  refine va_get (D := D) (ci := 5) (v := .ref (ad 1 99)) (C := RX5) (T := TX5) (N := 11) hx hb hW iX5 hown hK hP0 0 rfl rfl 1 (by decide) (hW _ k_309) (fun _ h => h) rfl dX5_like_1 ?_
  refine lv_iload_n hx hb dX5_like_4 rfl (lv_at hl0 1 rfl) ?_
  obtain ⟨y5, hy5, hm⟩ := bn hm
  refine cVRi (As := [.int x1]) (rest := []) X hP0 hl0.1 (c_X3_hasSitter l D q (ad 1) v1 x1 y5 hy5) [6, 7, 8, 9, 10, 11, 12, 13, 14, 15, 16, 17] rfl 6 rfl rfl rfl k_548 mX3_hasSitter ⟨rfl, rfl⟩ ⟨Nat.le_of_ble_eq_true rfl, Nat.le_of_ble_eq_true rfl⟩ rfl rfl (Nat.le_of_ble_eq_true rfl) dX5_like_5 ⟨Nat.zero_le _, Nat.zero_le _⟩ ?_
  refine lv_if_eq (tgt := 22) hx hb dX5_like_8 (by decide) (fun c8 => ?_) (fun c8 => ?_)
  · replace hm := tp hm c8
    refine lv_iconst (v := (-1 : Int32)) hx hb dX5_like_22 (by decide) ?_
    exact eRi  X hr hlocks hm dX5_like_23
  · replace hm := tn hm c8
    refine lv_aload_n hx hb dX5_like_11 rfl (lv_at hl0 0 rfl) ?_
    refine va_get (D := D) (ci := 5) (v := .ref (ad 1 99)) (C := RX5) (T := TX5) (N := 11) hx hb hW iX5 hown hK hP0 0 rfl rfl 1 (by decide) (hW _ k_309) (fun _ h => h) rfl dX5_like_12 ?_
    refine lv_iload_n hx hb dX5_like_15 rfl (lv_at hl0 2 rfl) ?_
    obtain ⟨y16, hy16, hm⟩ := bn hm
    refine cVRi (As := [.int x2]) (rest := []) X hP0 hl0.1 (c_X3_hasSitter l D q (ad 1) v1 x2 y16 hy16) [6, 7, 8, 9, 10, 11, 12, 13, 14, 15, 16, 17] rfl 6 rfl rfl rfl k_548 mX3_hasSitter ⟨rfl, rfl⟩ ⟨Nat.le_of_ble_eq_true rfl, Nat.le_of_ble_eq_true rfl⟩ rfl rfl (Nat.le_of_ble_eq_true rfl) dX5_like_16 ⟨Nat.zero_le _, Nat.zero_le _⟩ ?_
    refine lv_if_ne (tgt := 24) hx hb dX5_like_19 (by decide) (fun c19 => ?_) (fun c19 => ?_)
    · replace hm := tn hm c19
      refine lv_aload_n hx hb dX5_like_24 rfl (lv_at hl0 0 rfl) ?_
      refine va_get (D := D) (ci := 5) (v := .ref (ad 1 99)) (C := RX5) (T := TX5) (N := 11) hx hb hW iX5 hown hK hP0 0 rfl rfl 1 (by decide) (hW _ k_309) (fun _ h => h) rfl dX5_like_25 ?_
      refine lv_iload_n hx hb dX5_like_28 rfl (lv_at hl0 1 rfl) ?_
      refine lv_iload_n hx hb dX5_like_29 rfl (lv_at hl0 2 rfl) ?_
      obtain ⟨y30, hy30, hm⟩ := bn hm
      refine cVRi (As := [.int x1, .int x2]) (rest := []) X hP0 hl0.1 (c_X3_areLike l D q (ad 1) v1 x1 x2 y30 hy30) [6, 7, 8, 9, 10, 11, 12, 13, 14, 15, 16, 17] rfl 6 rfl rfl rfl k_604 mX3_areLike ⟨rfl, rfl⟩ ⟨Nat.le_of_ble_eq_true rfl, Nat.le_of_ble_eq_true rfl⟩ rfl rfl (Nat.le_of_ble_eq_true rfl) dX5_like_30 ⟨Nat.zero_le _, Nat.zero_le _⟩ ?_
      refine lv_if_eq (tgt := 40) hx hb dX5_like_33 (by decide) (fun c33 => ?_) (fun c33 => ?_)
      · replace hm := tp hm c33
        refine lv_iconst (v := (0 : Int32)) hx hb dX5_like_40 (by decide) ?_
        exact eRi  X hr hlocks hm dX5_like_41
      · replace hm := tn hm c33
        refine lv_iconst (v := (1 : Int32)) hx hb dX5_like_36 (by decide) ?_
        refine lv_goto (tgt := 41) hx hb dX5_like_37 (by decide) ?_
        exact eRi  X hr hlocks hm dX5_like_41
    · replace hm := tp hm c19
      refine lv_iconst (v := (-1 : Int32)) hx hb dX5_like_22 (by decide) ?_
      exact eRi  X hr hlocks hm dX5_like_23
noncomputable def m_X5_go_K34 (z34 : Int32 × Int32 × SV) : Option (Int32 × SV) :=
  some (z34.1, z34.2.2)
noncomputable def m_X5_go_L34 (x1 : Int32) (z34 : Int32 × Int32 × SV) : Option ((Int32 × Int32 × SV) ⊕ (Int32 × Int32 × SV)) :=
  (if x1 ≤ z34.2.1 then some (.inr (z34.1, z34.2.1, z34.2.2)) else (m_X3_passDay z34.2.2).bind (fun y44 => some (.inl ((z34.1 + y44.1), (z34.2.1 + (1 : Int32)), y44.2))))
noncomputable def m_X5_go (v0 : SV) (v1 : SV) (x1 : Int32) : Option (Int32 × SV) :=
  (m_X5_within x1 (0 : Int32) (60 : Int32)).bind (fun y4 => (if y4 = 0 then some ((-1 : Int32), v1) else (if ((v1 0 4) + x1) < (1000 : Int32) then (lpC (m_X5_go_L34 x1) ((0 : Int32), (0 : Int32), v1)).bind (m_X5_go_K34) else some ((-3 : Int32), v1))))
set_option maxHeartbeats 4000000 in
set_option maxRecDepth 100000 in
theorem c_X5_go (l : Launch) (D : va_G) (q : Nat → ClassId) (sz : Nat) (ad : Nat → Nat → Nat) (v0 : SV) (v1 : SV) (x1 : Int32) (res : Int32 × SV) (hm : m_X5_go v0 v1 x1 = some res) : Met l yX5_go (mw yX5_go cX5_go 4 (some .int)) ({ frames := 4, cells := 0, slots := 0, locals := 106 } : Room) (pcW D q (wX5 q ad v0 ++ wX3 q (ad 1) v1) sz [.ref (ad 0 99), .int x1]) (va_Qi (fun r w => r = res.1 ∧ w = res.2) (bW D q (wX5 q ad v0 ++ wX3 q (ad 1) v1) sz (fun (uu : SV) => wX5 q ad v0 ++ wX3 q (ad 1) uu)) (va_A (wX5 q ad v0 ++ wX3 q (ad 1) v1) sz)) 0 0 (va_A (wX5 q ad v0 ++ wX3 q (ad 1) v1) sz) := by
  refine Met.ofW (cc := cX5_go) (maxL := 4) (ret := (some .int)) (by decide) rfl ?_
  intro p e s m args below meth c s₁ B hml hv
  obtain ⟨rfl, hsz, hP0, hK, hD0⟩ := hv
  have hx := B.exec
  have hb := B.bytes
  have hr := B.returns
  have hW := mw_ws (atoms_spec (ws := mw yX5_go cX5_go 4 (some .int)) B.pre)
  have hown : s.vm.findClass RX5 = some m.cls := findClass_of_methodNamed B.named
  have hlocks := B.notSynchronized
  have X : Cx p s m [.ref (ad 0 99), .int x1].toArray c cX5_go 4 RX5 D q := ⟨hx, hb, hml, hown, hW, hK⟩
  subst hsz
  replace hD0 := hD0.self (sz := s.heap.size)
  have hS0 : va_S (va_A (wX5 q ad v0 ++ wX3 q (ad 1) v1) s.heap.size) s.heap s.heap [] := va_S.rf
  have hl0 := lv_entry ([.ref (ad 0 99), .int x1]) (n := 4) (Nat.le_of_ble_eq_true rfl)
  rw [lg_entry_eq]
  generalize (lg_sl ([.ref (ad 0 99), .int x1]) ++ List.replicate (4 - (lg_sl ([.ref (ad 0 99), .int x1])).length) Slot.unset).toArray = ls0 at hl0 ⊢
  have hl0 : lv_has ls0 4 [(0, .ref (ad 0 99)), (1, .int x1)] := hl0
  unfold m_X5_go at hm
  refine lv_iload_n hx hb dX5_go_0 rfl (lv_at hl0 1 rfl) ?_
  refine lv_iconst (v := (0 : Int32)) hx hb dX5_go_1 (by decide) ?_
  refine lv_bipush (v := (60 : Int32)) hx hb dX5_go_2 (by decide) ?_
  obtain ⟨y4, hy4, hm⟩ := bn hm
  refine cSRi (As := [.int x1, .int (0 : Int32), .int (60 : Int32)]) (rest := []) X hP0 hl0.1 (c_X5_within l D q x1 (0 : Int32) (60 : Int32) y4 hy4) [] rfl k_346 mX5_within ⟨rfl, rfl⟩ ⟨Nat.le_of_ble_eq_true rfl, Nat.le_of_ble_eq_true rfl⟩ rfl rfl (Nat.le_of_ble_eq_true rfl) dX5_go_4 ⟨Nat.zero_le _, Nat.zero_le _⟩ ?_
  refine lv_if_ne (tgt := 12) hx hb dX5_go_7 (by decide) (fun c7 => ?_) (fun c7 => ?_)
  · replace hm := tn hm c7
    refine lv_aload_n hx hb dX5_go_12 rfl (lv_at hl0 0 rfl) ?_
    refine va_get (D := D) (ci := 5) (v := .ref (ad 1 99)) (C := RX5) (T := TX5) (N := 11) hx hb hW iX5 hown hK hP0 0 rfl rfl 1 (by decide) (hW _ k_309) (fun _ h => h) rfl dX5_go_13 ?_
    refine va_get (D := D) (ci := 3) (v := .int (v1 0 4)) (C := RX3) (T := TX3) (N := 17) hx hb hW iX3 hown hK hP0 6 rfl rfl 4 (by decide) (hW _ k_98) (fun _ h => h) rfl dX5_go_16 ?_
    refine lv_iload_n hx hb dX5_go_19 rfl (lv_at hl0 1 rfl) ?_
    refine lv_iadd hx hb dX5_go_20 ?_
    refine lv_sipush (v := (1000 : Int32)) hx hb dX5_go_21 (by decide) ?_
    refine lv_icmp_lt (tgt := 30) hx hb dX5_go_24 (by decide) (fun c24 => ?_) (fun c24 => ?_)
    · replace hm := tp hm c24
      refine lv_iconst (v := (0 : Int32)) hx hb dX5_go_30 (by decide) ?_
      refine lv_istore_n (lv' := [(2, .int (0 : Int32)), (0, .ref (ad 0 99)), (1, .int x1)]) hx hb dX5_go_31 rfl hl0 (by decide) rfl (fun ls1 hl1 => ?_)
      clear hl0
      refine lv_iconst (v := (0 : Int32)) hx hb dX5_go_32 (by decide) ?_
      refine lv_istore_n (lv' := [(3, .int (0 : Int32)), (2, .int (0 : Int32)), (0, .ref (ad 0 99)), (1, .int x1)]) hx hb dX5_go_33 rfl hl1 (by decide) rfl (fun ls2 hl2 => ?_)
      clear hl1
      obtain ⟨r34, hr34, hm⟩ := bn hm
      obtain ⟨n34, hn34⟩ := lpC_ex hr34
      have hE34 : ∀ z34 : Int32 × Int32 × SV, m_X5_go_K34 z34 = some res → ∀ (H : Heap) (locs : List Loc), va_P D cls (wX5 q ad v0 ++ wX3 q (ad 1) z34.2.2) H → va_D (va_A (wX5 q ad v0 ++ wX3 q (ad 1) v1) s.heap.size) (wX5 q ad v0 ++ wX3 q (ad 1) z34.2.2) → va_S (va_A (wX5 q ad v0 ++ wX3 q (ad 1) v1) s.heap.size) s.heap H locs → ∀ ls : Array Slot, lv_has ls 4 [(2, .int z34.1)] → W p l e ((headSpec (mw yX5_go cX5_go 4 (some .int)) ({ frames := 4, cells := 0, slots := 0, locals := 106 } : Room)).room) s m [.ref (ad 0 99), .int x1].toArray below meth c H locs 0 0 (MQ below (va_Qi (fun r w => r = res.1 ∧ w = res.2) (bW D q (wX5 q ad v0 ++ wX3 q (ad 1) v1) s.heap.size (fun (uu : SV) => wX5 q ad v0 ++ wX3 q (ad 1) uu)) (va_A (wX5 q ad v0 ++ wX3 q (ad 1) v1) s.heap.size)) [.ref (ad 0 99), .int x1].toArray s 0 0 (va_A (wX5 q ad v0 ++ wX3 q (ad 1) v1) s.heap.size)) (F0 m 55 ls []) := by
        intro z34 hm H6 locs6 hP6 hD6 hS6 ls5 hl5
        unfold m_X5_go_K34 at hm
        refine lv_iload_n hx hb dX5_go_55 rfl (lv_at hl5 0 rfl) ?_
        exact eWi (Wf := fun (uu : SV) => wX5 q ad v0 ++ wX3 q (ad 1) uu) (u := z34.2.2) X hr hlocks hP6 hD6 hS6 hm dX5_go_56
      have hL34 : ∀ (n : Nat) (z34 : Int32 × Int32 × SV) (ρ34 : Int32 × Int32 × SV), lpO (m_X5_go_L34 x1) n z34 = some ρ34 → (m_X5_go_K34) ρ34 = some res → ∀ (H : Heap) (locs : List Loc), va_P D cls (wX5 q ad v0 ++ wX3 q (ad 1) z34.2.2) H → va_D (va_A (wX5 q ad v0 ++ wX3 q (ad 1) v1) s.heap.size) (wX5 q ad v0 ++ wX3 q (ad 1) z34.2.2) → va_S (va_A (wX5 q ad v0 ++ wX3 q (ad 1) v1) s.heap.size) s.heap H locs → ∀ ls : Array Slot, lv_has ls 4 [(0, .ref (ad 0 99)), (1, .int x1), (2, .int z34.1), (3, .int z34.2.1)] → W p l e ((headSpec (mw yX5_go cX5_go 4 (some .int)) ({ frames := 4, cells := 0, slots := 0, locals := 106 } : Room)).room) s m [.ref (ad 0 99), .int x1].toArray below meth c H locs 0 0 (MQ below (va_Qi (fun r w => r = res.1 ∧ w = res.2) (bW D q (wX5 q ad v0 ++ wX3 q (ad 1) v1) s.heap.size (fun (uu : SV) => wX5 q ad v0 ++ wX3 q (ad 1) uu)) (va_A (wX5 q ad v0 ++ wX3 q (ad 1) v1) s.heap.size)) [.ref (ad 0 99), .int x1].toArray s 0 0 (va_A (wX5 q ad v0 ++ wX3 q (ad 1) v1) s.heap.size)) (F0 m 34 ls []) := by
        intro n
        induction n with
        | zero => intro _ _ h; cases h
        | succ n ih34 =>
          intro z34 ρ34 hz34 hK34 H4 locs4 hP4 hD4 hS4 ls3 hl3
          obtain ⟨t34, hm, hz34⟩ := bn hz34
          unfold m_X5_go_L34 at hm
          refine lv_iload_n hx hb dX5_go_34 rfl (lv_at hl3 3 rfl) ?_
          refine lv_iload_n hx hb dX5_go_35 rfl (lv_at hl3 1 rfl) ?_
          refine lv_icmp_ge (tgt := 55) hx hb dX5_go_36 (by decide) (fun c36 => ?_) (fun c36 => ?_)
          · replace hm := tp hm c36
            cases hm
            cases hz34
            exact hE34 (z34.1, z34.2.1, z34.2.2) hK34 _ _ hP4 hD4 hS4 _ (lv_sub hl3 [2] rfl)
          · replace hm := tn hm c36
            refine lv_iload_n hx hb dX5_go_39 rfl (lv_at hl3 2 rfl) ?_
            refine lv_aload_n hx hb dX5_go_40 rfl (lv_at hl3 0 rfl) ?_
            refine va_get (D := D) (ci := 5) (v := .ref (ad 1 99)) (C := RX5) (T := TX5) (N := 11) hx hb hW iX5 hown hK hP4 0 rfl rfl 1 (by decide) (hW _ k_309) (fun _ h => h) rfl dX5_go_41 ?_
            obtain ⟨y44, hy44, hm⟩ := bn hm
            refine cVWi (As := []) (rest := [.int z34.1]) (Wn := fun (uu : SV) => wX5 q ad v0 ++ wX3 q (ad 1) uu) X hP4 hD4 hS4 (fun _ h => Or.inr h) hl3.1 (c_X3_passDay l D q H4.size (ad 1) z34.2.2 y44 hy44) [6, 7, 8, 9, 10, 11, 12, 13, 14, 15, 16, 17] [0, 1, 2, 3, 4, 5] [0, 1, 2, 3, 4, 5, 6, 7, 8, 9, 10, 11, 12, 13, 14, 15, 16, 17] rfl (Wr := wX5 q ad v0) rfl (by decide) (by decide) (by decide) (by decide) (fun _ => rfl) 6 rfl rfl rfl k_609 mX3_passDay ⟨rfl, rfl⟩ ⟨Nat.le_of_ble_eq_true rfl, Nat.le_of_ble_eq_true rfl⟩ rfl rfl (Nat.le_of_ble_eq_true rfl) dX5_go_44 ⟨Nat.zero_le _, Nat.zero_le _⟩ (fun H7 locs7 hP hD hS7 => ?_)
            have hP7 : va_P D cls (wX5 q ad v0 ++ wX3 q (ad 1) y44.2) H7 := hP
            have hD7 : va_D (va_A (wX5 q ad v0 ++ wX3 q (ad 1) v1) s.heap.size) (wX5 q ad v0 ++ wX3 q (ad 1) y44.2) := hD
            clear hP hD hP4 hD4 hS4
            refine lv_iadd hx hb dX5_go_47 ?_
            refine lv_istore_n (lv' := [(2, .int (z34.1 + y44.1)), (0, .ref (ad 0 99)), (1, .int x1), (3, .int z34.2.1)]) hx hb dX5_go_48 rfl hl3 (by decide) rfl (fun ls8 hl8 => ?_)
            clear hl3
            refine lv_iinc (v := (z34.2.1 + (1 : Int32))) (lv' := [(3, .int (z34.2.1 + (1 : Int32))), (2, .int (z34.1 + y44.1)), (0, .ref (ad 0 99)), (1, .int x1)]) hx hb dX5_go_49 hl8 (k := 3) rfl rfl (by decide) rfl (fun ls9 hl9 => ?_)
            clear hl8
            refine lv_goto (tgt := 34) hx hb dX5_go_52 (by decide) ?_
            cases hm
            exact ih34 ((z34.1 + y44.1), (z34.2.1 + (1 : Int32)), y44.2) ρ34 hz34 hK34 _ _ hP7 hD7 hS7 _ (lv_sub hl9 [2, 3, 1, 0] rfl)
      exact hL34 n34 ((0 : Int32), (0 : Int32), v1) r34 hn34 hm _ _ hP0 hD0 hS0 _ (lv_sub hl2 [2, 3, 1, 0] rfl)
    · replace hm := tn hm c24
      refine lv_bipush (v := (-3 : Int32)) hx hb dX5_go_27 (by decide) ?_
      exact eWi (Wf := fun (uu : SV) => wX5 q ad v0 ++ wX3 q (ad 1) uu) (u := v1) X hr hlocks hP0 hD0 hS0 hm dX5_go_29
  · replace hm := tp hm c7
    refine lv_iconst (v := (-1 : Int32)) hx hb dX5_go_10 (by decide) ?_
    exact eWi (Wf := fun (uu : SV) => wX5 q ad v0 ++ wX3 q (ad 1) uu) (u := v1) X hr hlocks hP0 hD0 hS0 hm dX5_go_11
noncomputable def m_X5_ahead_K46 (v1 : SV) (x1 : Int32) (x3 : Int32) (z46 : Int32 × SV) : Option (Int32 × SV) :=
  (if x3 = 0 then ck (inB x1 5) (ck (inB x1 5) (some (((z46.2 13 ((x1).toNatClampNeg)) - (v1 13 ((x1).toNatClampNeg))), z46.2))) else (m_X3_showing z46.2 x1).bind (fun y97 => some (y97, z46.2)))
noncomputable def m_X5_ahead_L46 (x2 : Int32) (z46 : Int32 × SV) : Option ((Int32 × SV) ⊕ (Int32 × SV)) :=
  (if x2 ≤ z46.1 then some (.inr (z46.1, z46.2)) else (m_X3_passDay z46.2).bind (fun y56 => some (.inl ((z46.1 + (1 : Int32)), y56.2))))
noncomputable def m_X5_ahead (v0 : SV) (v1 : SV) (v2 : SV) (x1 : Int32) (x2 : Int32) (x3 : Int32) : Option (Int32 × SV) :=
  (m_X3_hasSitter v1 x1).bind (fun y5 => (if y5 = 0 then some ((-1 : Int32), v2) else (m_X5_within x2 (0 : Int32) (60 : Int32)).bind (fun y15 => (if y15 = 0 then some ((-1 : Int32), v2) else (m_X5_within x3 (0 : Int32) (1 : Int32)).bind (fun y24 => (if y24 = 0 then some ((-1 : Int32), v2) else (m_X3_becomes v2 v1).bind (fun y40 => (lpC (m_X5_ahead_L46 x2) ((0 : Int32), y40)).bind (m_X5_ahead_K46 v1 x1 x3))))))))
set_option maxHeartbeats 4000000 in
set_option maxRecDepth 100000 in
theorem c_X5_ahead (l : Launch) (D : va_G) (q : Nat → ClassId) (sz : Nat) (ad : Nat → Nat → Nat) (v0 : SV) (v1 : SV) (v2 : SV) (x1 : Int32) (x2 : Int32) (x3 : Int32) (res : Int32 × SV) (hm : m_X5_ahead v0 v1 v2 x1 x2 x3 = some res) : Met l yX5_ahead (mw yX5_ahead cX5_ahead 5 (some .int)) ({ frames := 4, cells := 0, slots := 0, locals := 106 } : Room) (pcW D q (wX5 q ad v0 ++ (wX3 q (ad 1) v1 ++ wX3 q (ad 2) v2)) sz [.ref (ad 0 99), .int x1, .int x2, .int x3]) (va_Qi (fun r w => r = res.1 ∧ w = res.2) (bW D q (wX5 q ad v0 ++ (wX3 q (ad 1) v1 ++ wX3 q (ad 2) v2)) sz (fun (uu : SV) => wX5 q ad v0 ++ (wX3 q (ad 1) v1 ++ wX3 q (ad 2) uu))) (va_A (wX5 q ad v0 ++ (wX3 q (ad 1) v1 ++ wX3 q (ad 2) v2)) sz)) 0 0 (va_A (wX5 q ad v0 ++ (wX3 q (ad 1) v1 ++ wX3 q (ad 2) v2)) sz) := by
  refine Met.ofW (cc := cX5_ahead) (maxL := 5) (ret := (some .int)) (by decide) rfl ?_
  intro p e s m args below meth c s₁ B hml hv
  obtain ⟨rfl, hsz, hP0, hK, hD0⟩ := hv
  have hx := B.exec
  have hb := B.bytes
  have hr := B.returns
  have hW := mw_ws (atoms_spec (ws := mw yX5_ahead cX5_ahead 5 (some .int)) B.pre)
  have hown : s.vm.findClass RX5 = some m.cls := findClass_of_methodNamed B.named
  have hlocks := B.notSynchronized
  have X : Cx p s m [.ref (ad 0 99), .int x1, .int x2, .int x3].toArray c cX5_ahead 5 RX5 D q := ⟨hx, hb, hml, hown, hW, hK⟩
  subst hsz
  replace hD0 := hD0.self (sz := s.heap.size)
  have hS0 : va_S (va_A (wX5 q ad v0 ++ (wX3 q (ad 1) v1 ++ wX3 q (ad 2) v2)) s.heap.size) s.heap s.heap [] := va_S.rf
  have hl0 := lv_entry ([.ref (ad 0 99), .int x1, .int x2, .int x3]) (n := 5) (Nat.le_of_ble_eq_true rfl)
  rw [lg_entry_eq]
  generalize (lg_sl ([.ref (ad 0 99), .int x1, .int x2, .int x3]) ++ List.replicate (5 - (lg_sl ([.ref (ad 0 99), .int x1, .int x2, .int x3])).length) Slot.unset).toArray = ls0 at hl0 ⊢
  have hl0 : lv_has ls0 5 [(0, .ref (ad 0 99)), (1, .int x1), (2, .int x2), (3, .int x3)] := hl0
  unfold m_X5_ahead at hm
  refine lv_aload_n hx hb dX5_ahead_0 rfl (lv_at hl0 0 rfl) ?_
  refine va_get (D := D) (ci := 5) (v := .ref (ad 1 99)) (C := RX5) (T := TX5) (N := 11) hx hb hW iX5 hown hK hP0 0 rfl rfl 1 (by decide) (hW _ k_309) (fun _ h => h) rfl dX5_ahead_1 ?_
  refine lv_iload_n hx hb dX5_ahead_4 rfl (lv_at hl0 1 rfl) ?_
  obtain ⟨y5, hy5, hm⟩ := bn hm
  refine cVRi (As := [.int x1]) (rest := []) X hP0 hl0.1 (c_X3_hasSitter l D q (ad 1) v1 x1 y5 hy5) [6, 7, 8, 9, 10, 11, 12, 13, 14, 15, 16, 17] rfl 6 rfl rfl rfl k_548 mX3_hasSitter ⟨rfl, rfl⟩ ⟨Nat.le_of_ble_eq_true rfl, Nat.le_of_ble_eq_true rfl⟩ rfl rfl (Nat.le_of_ble_eq_true rfl) dX5_ahead_5 ⟨Nat.zero_le _, Nat.zero_le _⟩ ?_
  refine lv_if_eq (tgt := 30) hx hb dX5_ahead_8 (by decide) (fun c8 => ?_) (fun c8 => ?_)
  · replace hm := tp hm c8
    refine lv_iconst (v := (-1 : Int32)) hx hb dX5_ahead_30 (by decide) ?_
    exact eWi (Wf := fun (uu : SV) => wX5 q ad v0 ++ (wX3 q (ad 1) v1 ++ wX3 q (ad 2) uu)) (u := v2) X hr hlocks hP0 hD0 hS0 hm dX5_ahead_31
  · replace hm := tn hm c8
    refine lv_iload_n hx hb dX5_ahead_11 rfl (lv_at hl0 2 rfl) ?_
    refine lv_iconst (v := (0 : Int32)) hx hb dX5_ahead_12 (by decide) ?_
    refine lv_bipush (v := (60 : Int32)) hx hb dX5_ahead_13 (by decide) ?_
    obtain ⟨y15, hy15, hm⟩ := bn hm
    refine cSRi (As := [.int x2, .int (0 : Int32), .int (60 : Int32)]) (rest := []) X hP0 hl0.1 (c_X5_within l D q x2 (0 : Int32) (60 : Int32) y15 hy15) [] rfl k_346 mX5_within ⟨rfl, rfl⟩ ⟨Nat.le_of_ble_eq_true rfl, Nat.le_of_ble_eq_true rfl⟩ rfl rfl (Nat.le_of_ble_eq_true rfl) dX5_ahead_15 ⟨Nat.zero_le _, Nat.zero_le _⟩ ?_
    refine lv_if_eq (tgt := 30) hx hb dX5_ahead_18 (by decide) (fun c18 => ?_) (fun c18 => ?_)
    · replace hm := tp hm c18
      refine lv_iconst (v := (-1 : Int32)) hx hb dX5_ahead_30 (by decide) ?_
      exact eWi (Wf := fun (uu : SV) => wX5 q ad v0 ++ (wX3 q (ad 1) v1 ++ wX3 q (ad 2) uu)) (u := v2) X hr hlocks hP0 hD0 hS0 hm dX5_ahead_31
    · replace hm := tn hm c18
      refine lv_iload_n hx hb dX5_ahead_21 rfl (lv_at hl0 3 rfl) ?_
      refine lv_iconst (v := (0 : Int32)) hx hb dX5_ahead_22 (by decide) ?_
      refine lv_iconst (v := (1 : Int32)) hx hb dX5_ahead_23 (by decide) ?_
      obtain ⟨y24, hy24, hm⟩ := bn hm
      refine cSRi (As := [.int x3, .int (0 : Int32), .int (1 : Int32)]) (rest := []) X hP0 hl0.1 (c_X5_within l D q x3 (0 : Int32) (1 : Int32) y24 hy24) [] rfl k_346 mX5_within ⟨rfl, rfl⟩ ⟨Nat.le_of_ble_eq_true rfl, Nat.le_of_ble_eq_true rfl⟩ rfl rfl (Nat.le_of_ble_eq_true rfl) dX5_ahead_24 ⟨Nat.zero_le _, Nat.zero_le _⟩ ?_
      refine lv_if_ne (tgt := 32) hx hb dX5_ahead_27 (by decide) (fun c27 => ?_) (fun c27 => ?_)
      · replace hm := tn hm c27
        refine lv_aload_n hx hb dX5_ahead_32 rfl (lv_at hl0 0 rfl) ?_
        refine va_get (D := D) (ci := 5) (v := .ref (ad 2 99)) (C := RX5) (T := TX5) (N := 11) hx hb hW iX5 hown hK hP0 0 rfl rfl 2 (by decide) (hW _ k_310) (fun _ h => h) rfl dX5_ahead_33 ?_
        refine lv_aload_n hx hb dX5_ahead_36 rfl (lv_at hl0 0 rfl) ?_
        refine va_get (D := D) (ci := 5) (v := .ref (ad 1 99)) (C := RX5) (T := TX5) (N := 11) hx hb hW iX5 hown hK hP0 0 rfl rfl 1 (by decide) (hW _ k_309) (fun _ h => h) rfl dX5_ahead_37 ?_
        obtain ⟨y40, hy40, hm⟩ := bn hm
        refine cVWv (As := [.ref (ad 1 99)]) (rest := []) (Wn := fun (uu : SV) => wX5 q ad v0 ++ (wX3 q (ad 1) v1 ++ wX3 q (ad 2) uu)) X hP0 hD0 hS0 (fun _ h => Or.inr h) hl0.1 (c_X3_becomes l D q s.heap.size (ad 2) v2 (ad 1) v1 y40 hy40) [18, 19, 20, 21, 22, 23, 24, 25, 26, 27, 28, 29, 6, 7, 8, 9, 10, 11, 12, 13, 14, 15, 16, 17] [0, 1, 2, 3, 4, 5] [0, 1, 2, 3, 4, 5, 18, 19, 20, 21, 22, 23, 24, 25, 26, 27, 28, 29, 6, 7, 8, 9, 10, 11, 12, 13, 14, 15, 16, 17] rfl (Wr := wX5 q ad v0) rfl (by decide) (by decide) (by decide) (by decide) (fun _ => rfl) 18 rfl rfl rfl k_504 mX3_becomes ⟨rfl, rfl⟩ ⟨Nat.le_of_ble_eq_true rfl, Nat.le_of_ble_eq_true rfl⟩ rfl rfl (Nat.le_of_ble_eq_true rfl) dX5_ahead_40 ⟨Nat.zero_le _, Nat.zero_le _⟩ (fun H1 locs1 hP hD hS1 => ?_)
        have hP1 : va_P D cls (wX5 q ad v0 ++ (wX3 q (ad 1) v1 ++ wX3 q (ad 2) y40)) H1 := hP
        have hD1 : va_D (va_A (wX5 q ad v0 ++ (wX3 q (ad 1) v1 ++ wX3 q (ad 2) v2)) s.heap.size) (wX5 q ad v0 ++ (wX3 q (ad 1) v1 ++ wX3 q (ad 2) y40)) := hD
        clear hP hD hP0 hD0 hS0
        refine lv_iconst (v := (0 : Int32)) hx hb dX5_ahead_43 (by decide) ?_
        refine lv_istore (lv' := [(4, .int (0 : Int32)), (0, .ref (ad 0 99)), (1, .int x1), (2, .int x2), (3, .int x3)]) hx hb dX5_ahead_44 hl0 (by decide) rfl (fun ls2 hl2 => ?_)
        clear hl0
        obtain ⟨r46, hr46, hm⟩ := bn hm
        obtain ⟨n46, hn46⟩ := lpC_ex hr46
        have hE46 : ∀ z46 : Int32 × SV, m_X5_ahead_K46 v1 x1 x3 z46 = some res → ∀ (H : Heap) (locs : List Loc), va_P D cls (wX5 q ad v0 ++ (wX3 q (ad 1) v1 ++ wX3 q (ad 2) z46.2)) H → va_D (va_A (wX5 q ad v0 ++ (wX3 q (ad 1) v1 ++ wX3 q (ad 2) v2)) s.heap.size) (wX5 q ad v0 ++ (wX3 q (ad 1) v1 ++ wX3 q (ad 2) z46.2)) → va_S (va_A (wX5 q ad v0 ++ (wX3 q (ad 1) v1 ++ wX3 q (ad 2) v2)) s.heap.size) s.heap H locs → ∀ ls : Array Slot, lv_has ls 5 [(0, .ref (ad 0 99)), (1, .int x1), (3, .int x3)] → W p l e ((headSpec (mw yX5_ahead cX5_ahead 5 (some .int)) ({ frames := 4, cells := 0, slots := 0, locals := 106 } : Room)).room) s m [.ref (ad 0 99), .int x1, .int x2, .int x3].toArray below meth c H locs 0 0 (MQ below (va_Qi (fun r w => r = res.1 ∧ w = res.2) (bW D q (wX5 q ad v0 ++ (wX3 q (ad 1) v1 ++ wX3 q (ad 2) v2)) s.heap.size (fun (uu : SV) => wX5 q ad v0 ++ (wX3 q (ad 1) v1 ++ wX3 q (ad 2) uu))) (va_A (wX5 q ad v0 ++ (wX3 q (ad 1) v1 ++ wX3 q (ad 2) v2)) s.heap.size)) [.ref (ad 0 99), .int x1, .int x2, .int x3].toArray s 0 0 (va_A (wX5 q ad v0 ++ (wX3 q (ad 1) v1 ++ wX3 q (ad 2) v2)) s.heap.size)) (F0 m 66 ls []) := by
          intro z46 hm H6 locs6 hP6 hD6 hS6 ls5 hl5
          unfold m_X5_ahead_K46 at hm
          refine lv_iload_n hx hb dX5_ahead_66 rfl (lv_at hl5 2 rfl) ?_
          refine lv_if_ne (tgt := 92) hx hb dX5_ahead_67 (by decide) (fun c67 => ?_) (fun c67 => ?_)
          · replace hm := tn hm c67
            refine lv_aload_n hx hb dX5_ahead_92 rfl (lv_at hl5 0 rfl) ?_
            refine va_get (D := D) (ci := 5) (v := .ref (ad 2 99)) (C := RX5) (T := TX5) (N := 11) hx hb hW iX5 hown hK hP6 0 rfl rfl 2 (by decide) (hW _ k_310) (fun _ h => h) rfl dX5_ahead_93 ?_
            refine lv_iload_n hx hb dX5_ahead_96 rfl (lv_at hl5 1 rfl) ?_
            obtain ⟨y97, hy97, hm⟩ := bn hm
            refine cVRi (As := [.int x1]) (rest := []) X hP6 hl5.1 (c_X3_showing l D q (ad 2) z46.2 x1 y97 hy97) [18, 19, 20, 21, 22, 23, 24, 25, 26, 27, 28, 29] rfl 18 rfl rfl rfl k_522 mX3_showing ⟨rfl, rfl⟩ ⟨Nat.le_of_ble_eq_true rfl, Nat.le_of_ble_eq_true rfl⟩ rfl rfl (Nat.le_of_ble_eq_true rfl) dX5_ahead_97 ⟨Nat.zero_le _, Nat.zero_le _⟩ ?_
            exact eWi (Wf := fun (uu : SV) => wX5 q ad v0 ++ (wX3 q (ad 1) v1 ++ wX3 q (ad 2) uu)) (u := z46.2) X hr hlocks hP6 hD6 hS6 hm dX5_ahead_100
          · replace hm := tp hm c67
            refine lv_aload_n hx hb dX5_ahead_70 rfl (lv_at hl5 0 rfl) ?_
            refine va_get (D := D) (ci := 5) (v := .ref (ad 2 99)) (C := RX5) (T := TX5) (N := 11) hx hb hW iX5 hown hK hP6 0 rfl rfl 2 (by decide) (hW _ k_310) (fun _ h => h) rfl dX5_ahead_71 ?_
            refine va_get (D := D) (ci := 3) (v := .ref (ad 2 13)) (C := RX3) (T := TX3) (N := 17) hx hb hW iX3 hown hK hP6 18 rfl rfl 13 (by decide) (hW _ k_125) (fun _ h => h) rfl dX5_ahead_74 ?_
            refine lv_iload_n hx hb dX5_ahead_77 rfl (lv_at hl5 1 rfl) ?_
            obtain ⟨h7, hm⟩ := ckd hm
            refine va_iald (f := (z46.2 13)) hx hb hK hP6 26 0 rfl rfl (inB_vp h7) dX5_ahead_78 ?_
            refine lv_aload_n hx hb dX5_ahead_79 rfl (lv_at hl5 0 rfl) ?_
            refine va_get (D := D) (ci := 5) (v := .ref (ad 1 99)) (C := RX5) (T := TX5) (N := 11) hx hb hW iX5 hown hK hP6 0 rfl rfl 1 (by decide) (hW _ k_309) (fun _ h => h) rfl dX5_ahead_80 ?_
            refine va_get (D := D) (ci := 3) (v := .ref (ad 1 13)) (C := RX3) (T := TX3) (N := 17) hx hb hW iX3 hown hK hP6 6 rfl rfl 13 (by decide) (hW _ k_125) (fun _ h => h) rfl dX5_ahead_83 ?_
            refine lv_iload_n hx hb dX5_ahead_86 rfl (lv_at hl5 1 rfl) ?_
            obtain ⟨h8, hm⟩ := ckd hm
            refine va_iald (f := (v1 13)) hx hb hK hP6 14 0 rfl rfl (inB_vp h8) dX5_ahead_87 ?_
            refine lv_isub hx hb dX5_ahead_88 ?_
            refine lv_goto (tgt := 100) hx hb dX5_ahead_89 (by decide) ?_
            exact eWi (Wf := fun (uu : SV) => wX5 q ad v0 ++ (wX3 q (ad 1) v1 ++ wX3 q (ad 2) uu)) (u := z46.2) X hr hlocks hP6 hD6 hS6 hm dX5_ahead_100
        have hL46 : ∀ (n : Nat) (z46 : Int32 × SV) (ρ46 : Int32 × SV), lpO (m_X5_ahead_L46 x2) n z46 = some ρ46 → (m_X5_ahead_K46 v1 x1 x3) ρ46 = some res → ∀ (H : Heap) (locs : List Loc), va_P D cls (wX5 q ad v0 ++ (wX3 q (ad 1) v1 ++ wX3 q (ad 2) z46.2)) H → va_D (va_A (wX5 q ad v0 ++ (wX3 q (ad 1) v1 ++ wX3 q (ad 2) v2)) s.heap.size) (wX5 q ad v0 ++ (wX3 q (ad 1) v1 ++ wX3 q (ad 2) z46.2)) → va_S (va_A (wX5 q ad v0 ++ (wX3 q (ad 1) v1 ++ wX3 q (ad 2) v2)) s.heap.size) s.heap H locs → ∀ ls : Array Slot, lv_has ls 5 [(0, .ref (ad 0 99)), (1, .int x1), (2, .int x2), (3, .int x3), (4, .int z46.1)] → W p l e ((headSpec (mw yX5_ahead cX5_ahead 5 (some .int)) ({ frames := 4, cells := 0, slots := 0, locals := 106 } : Room)).room) s m [.ref (ad 0 99), .int x1, .int x2, .int x3].toArray below meth c H locs 0 0 (MQ below (va_Qi (fun r w => r = res.1 ∧ w = res.2) (bW D q (wX5 q ad v0 ++ (wX3 q (ad 1) v1 ++ wX3 q (ad 2) v2)) s.heap.size (fun (uu : SV) => wX5 q ad v0 ++ (wX3 q (ad 1) v1 ++ wX3 q (ad 2) uu))) (va_A (wX5 q ad v0 ++ (wX3 q (ad 1) v1 ++ wX3 q (ad 2) v2)) s.heap.size)) [.ref (ad 0 99), .int x1, .int x2, .int x3].toArray s 0 0 (va_A (wX5 q ad v0 ++ (wX3 q (ad 1) v1 ++ wX3 q (ad 2) v2)) s.heap.size)) (F0 m 46 ls []) := by
          intro n
          induction n with
          | zero => intro _ _ h; cases h
          | succ n ih46 =>
            intro z46 ρ46 hz46 hK46 H4 locs4 hP4 hD4 hS4 ls3 hl3
            obtain ⟨t46, hm, hz46⟩ := bn hz46
            unfold m_X5_ahead_L46 at hm
            refine lv_iload hx hb dX5_ahead_46 (lv_at hl3 4 rfl) ?_
            refine lv_iload_n hx hb dX5_ahead_48 rfl (lv_at hl3 2 rfl) ?_
            refine lv_icmp_ge (tgt := 66) hx hb dX5_ahead_49 (by decide) (fun c49 => ?_) (fun c49 => ?_)
            · replace hm := tp hm c49
              cases hm
              cases hz46
              exact hE46 (z46.1, z46.2) hK46 _ _ hP4 hD4 hS4 _ (lv_sub hl3 [0, 1, 3] rfl)
            · replace hm := tn hm c49
              refine lv_aload_n hx hb dX5_ahead_52 rfl (lv_at hl3 0 rfl) ?_
              refine va_get (D := D) (ci := 5) (v := .ref (ad 2 99)) (C := RX5) (T := TX5) (N := 11) hx hb hW iX5 hown hK hP4 0 rfl rfl 2 (by decide) (hW _ k_310) (fun _ h => h) rfl dX5_ahead_53 ?_
              obtain ⟨y56, hy56, hm⟩ := bn hm
              refine cVWi (As := []) (rest := []) (Wn := fun (uu : SV) => wX5 q ad v0 ++ (wX3 q (ad 1) v1 ++ wX3 q (ad 2) uu)) X hP4 hD4 hS4 (fun _ h => Or.inr h) hl3.1 (c_X3_passDay l D q H4.size (ad 2) z46.2 y56 hy56) [18, 19, 20, 21, 22, 23, 24, 25, 26, 27, 28, 29] [0, 1, 2, 3, 4, 5, 6, 7, 8, 9, 10, 11, 12, 13, 14, 15, 16, 17] [0, 1, 2, 3, 4, 5, 6, 7, 8, 9, 10, 11, 12, 13, 14, 15, 16, 17, 18, 19, 20, 21, 22, 23, 24, 25, 26, 27, 28, 29] rfl (Wr := wX5 q ad v0 ++ wX3 q (ad 1) v1) rfl (by decide) (by decide) (by decide) (by decide) (fun _ => rfl) 18 rfl rfl rfl k_609 mX3_passDay ⟨rfl, rfl⟩ ⟨Nat.le_of_ble_eq_true rfl, Nat.le_of_ble_eq_true rfl⟩ rfl rfl (Nat.le_of_ble_eq_true rfl) dX5_ahead_56 ⟨Nat.zero_le _, Nat.zero_le _⟩ (fun H9 locs9 hP hD hS9 => ?_)
              have hP9 : va_P D cls (wX5 q ad v0 ++ (wX3 q (ad 1) v1 ++ wX3 q (ad 2) y56.2)) H9 := hP
              have hD9 : va_D (va_A (wX5 q ad v0 ++ (wX3 q (ad 1) v1 ++ wX3 q (ad 2) v2)) s.heap.size) (wX5 q ad v0 ++ (wX3 q (ad 1) v1 ++ wX3 q (ad 2) y56.2)) := hD
              clear hP hD hP4 hD4 hS4
              refine lv_pop hx hb dX5_ahead_59 rfl ?_
              refine lv_iinc (v := (z46.1 + (1 : Int32))) (lv' := [(4, .int (z46.1 + (1 : Int32))), (0, .ref (ad 0 99)), (1, .int x1), (2, .int x2), (3, .int x3)]) hx hb dX5_ahead_60 hl3 (k := 4) rfl rfl (by decide) rfl (fun ls10 hl10 => ?_)
              clear hl3
              refine lv_goto (tgt := 46) hx hb dX5_ahead_63 (by decide) ?_
              cases hm
              exact ih46 ((z46.1 + (1 : Int32)), y56.2) ρ46 hz46 hK46 _ _ hP9 hD9 hS9 _ (lv_sub hl10 [1, 2, 3, 4, 0] rfl)
        exact hL46 n46 ((0 : Int32), y40) r46 hn46 hm _ _ hP1 hD1 hS1 _ (lv_sub hl2 [1, 2, 3, 4, 0] rfl)
      · replace hm := tp hm c27
        refine lv_iconst (v := (-1 : Int32)) hx hb dX5_ahead_30 (by decide) ?_
        exact eWi (Wf := fun (uu : SV) => wX5 q ad v0 ++ (wX3 q (ad 1) v1 ++ wX3 q (ad 2) uu)) (u := v2) X hr hlocks hP0 hD0 hS0 hm dX5_ahead_31
noncomputable def m_X5_when_K37 (z37 : Int32 × SV) : Option (Int32 × SV) :=
  some ((-4 : Int32), z37.2)
noncomputable def m_X5_when_L37 (x1 : Int32) (x2 : Int32) (z37 : Int32 × SV) : Option ((Int32 × SV) ⊕ ((Int32 × SV) ⊕ (Int32 × SV))) :=
  (if (60 : Int32) < z37.1 then some (.inr (.inl (z37.1, z37.2))) else (m_X3_top z37.2 x1).bind (fun y48 => (if y48 = x2 then some (.inr (.inr (z37.1, z37.2))) else (m_X3_passDay z37.2).bind (fun y61 => some (.inl ((z37.1 + (1 : Int32)), y61.2))))))
noncomputable def m_X5_when (v0 : SV) (v1 : SV) (v2 : SV) (x1 : Int32) (x2 : Int32) : Option (Int32 × SV) :=
  (m_X3_hasPart v1 x1).bind (fun y5 => (if y5 = 0 then some ((-1 : Int32), v2) else (m_X3_hasSitter v1 x2).bind (fun y16 => (if y16 = 0 then some ((-1 : Int32), v2) else (m_X3_becomes v2 v1).bind (fun y32 => (lpC (m_X5_when_L37 x1 x2) ((0 : Int32), y32)).bind (Sum.elim (m_X5_when_K37) (fun y => some y)))))))
set_option maxHeartbeats 4000000 in
set_option maxRecDepth 100000 in
theorem c_X5_when (l : Launch) (D : va_G) (q : Nat → ClassId) (sz : Nat) (ad : Nat → Nat → Nat) (v0 : SV) (v1 : SV) (v2 : SV) (x1 : Int32) (x2 : Int32) (res : Int32 × SV) (hm : m_X5_when v0 v1 v2 x1 x2 = some res) : Met l yX5_when (mw yX5_when cX5_when 4 (some .int)) ({ frames := 4, cells := 0, slots := 0, locals := 106 } : Room) (pcW D q (wX5 q ad v0 ++ (wX3 q (ad 1) v1 ++ wX3 q (ad 2) v2)) sz [.ref (ad 0 99), .int x1, .int x2]) (va_Qi (fun r w => r = res.1 ∧ w = res.2) (bW D q (wX5 q ad v0 ++ (wX3 q (ad 1) v1 ++ wX3 q (ad 2) v2)) sz (fun (uu : SV) => wX5 q ad v0 ++ (wX3 q (ad 1) v1 ++ wX3 q (ad 2) uu))) (va_A (wX5 q ad v0 ++ (wX3 q (ad 1) v1 ++ wX3 q (ad 2) v2)) sz)) 0 0 (va_A (wX5 q ad v0 ++ (wX3 q (ad 1) v1 ++ wX3 q (ad 2) v2)) sz) := by
  refine Met.ofW (cc := cX5_when) (maxL := 4) (ret := (some .int)) (by decide) rfl ?_
  intro p e s m args below meth c s₁ B hml hv
  obtain ⟨rfl, hsz, hP0, hK, hD0⟩ := hv
  have hx := B.exec
  have hb := B.bytes
  have hr := B.returns
  have hW := mw_ws (atoms_spec (ws := mw yX5_when cX5_when 4 (some .int)) B.pre)
  have hown : s.vm.findClass RX5 = some m.cls := findClass_of_methodNamed B.named
  have hlocks := B.notSynchronized
  have X : Cx p s m [.ref (ad 0 99), .int x1, .int x2].toArray c cX5_when 4 RX5 D q := ⟨hx, hb, hml, hown, hW, hK⟩
  subst hsz
  replace hD0 := hD0.self (sz := s.heap.size)
  have hS0 : va_S (va_A (wX5 q ad v0 ++ (wX3 q (ad 1) v1 ++ wX3 q (ad 2) v2)) s.heap.size) s.heap s.heap [] := va_S.rf
  have hl0 := lv_entry ([.ref (ad 0 99), .int x1, .int x2]) (n := 4) (Nat.le_of_ble_eq_true rfl)
  rw [lg_entry_eq]
  generalize (lg_sl ([.ref (ad 0 99), .int x1, .int x2]) ++ List.replicate (4 - (lg_sl ([.ref (ad 0 99), .int x1, .int x2])).length) Slot.unset).toArray = ls0 at hl0 ⊢
  have hl0 : lv_has ls0 4 [(0, .ref (ad 0 99)), (1, .int x1), (2, .int x2)] := hl0
  unfold m_X5_when at hm
  refine lv_aload_n hx hb dX5_when_0 rfl (lv_at hl0 0 rfl) ?_
  refine va_get (D := D) (ci := 5) (v := .ref (ad 1 99)) (C := RX5) (T := TX5) (N := 11) hx hb hW iX5 hown hK hP0 0 rfl rfl 1 (by decide) (hW _ k_309) (fun _ h => h) rfl dX5_when_1 ?_
  refine lv_iload_n hx hb dX5_when_4 rfl (lv_at hl0 1 rfl) ?_
  obtain ⟨y5, hy5, hm⟩ := bn hm
  refine cVRi (As := [.int x1]) (rest := []) X hP0 hl0.1 (c_X3_hasPart l D q (ad 1) v1 x1 y5 hy5) [6, 7, 8, 9, 10, 11, 12, 13, 14, 15, 16, 17] rfl 6 rfl rfl rfl k_538 mX3_hasPart ⟨rfl, rfl⟩ ⟨Nat.le_of_ble_eq_true rfl, Nat.le_of_ble_eq_true rfl⟩ rfl rfl (Nat.le_of_ble_eq_true rfl) dX5_when_5 ⟨Nat.zero_le _, Nat.zero_le _⟩ ?_
  refine lv_if_eq (tgt := 22) hx hb dX5_when_8 (by decide) (fun c8 => ?_) (fun c8 => ?_)
  · replace hm := tp hm c8
    refine lv_iconst (v := (-1 : Int32)) hx hb dX5_when_22 (by decide) ?_
    exact eWi (Wf := fun (uu : SV) => wX5 q ad v0 ++ (wX3 q (ad 1) v1 ++ wX3 q (ad 2) uu)) (u := v2) X hr hlocks hP0 hD0 hS0 hm dX5_when_23
  · replace hm := tn hm c8
    refine lv_aload_n hx hb dX5_when_11 rfl (lv_at hl0 0 rfl) ?_
    refine va_get (D := D) (ci := 5) (v := .ref (ad 1 99)) (C := RX5) (T := TX5) (N := 11) hx hb hW iX5 hown hK hP0 0 rfl rfl 1 (by decide) (hW _ k_309) (fun _ h => h) rfl dX5_when_12 ?_
    refine lv_iload_n hx hb dX5_when_15 rfl (lv_at hl0 2 rfl) ?_
    obtain ⟨y16, hy16, hm⟩ := bn hm
    refine cVRi (As := [.int x2]) (rest := []) X hP0 hl0.1 (c_X3_hasSitter l D q (ad 1) v1 x2 y16 hy16) [6, 7, 8, 9, 10, 11, 12, 13, 14, 15, 16, 17] rfl 6 rfl rfl rfl k_548 mX3_hasSitter ⟨rfl, rfl⟩ ⟨Nat.le_of_ble_eq_true rfl, Nat.le_of_ble_eq_true rfl⟩ rfl rfl (Nat.le_of_ble_eq_true rfl) dX5_when_16 ⟨Nat.zero_le _, Nat.zero_le _⟩ ?_
    refine lv_if_ne (tgt := 24) hx hb dX5_when_19 (by decide) (fun c19 => ?_) (fun c19 => ?_)
    · replace hm := tn hm c19
      refine lv_aload_n hx hb dX5_when_24 rfl (lv_at hl0 0 rfl) ?_
      refine va_get (D := D) (ci := 5) (v := .ref (ad 2 99)) (C := RX5) (T := TX5) (N := 11) hx hb hW iX5 hown hK hP0 0 rfl rfl 2 (by decide) (hW _ k_310) (fun _ h => h) rfl dX5_when_25 ?_
      refine lv_aload_n hx hb dX5_when_28 rfl (lv_at hl0 0 rfl) ?_
      refine va_get (D := D) (ci := 5) (v := .ref (ad 1 99)) (C := RX5) (T := TX5) (N := 11) hx hb hW iX5 hown hK hP0 0 rfl rfl 1 (by decide) (hW _ k_309) (fun _ h => h) rfl dX5_when_29 ?_
      obtain ⟨y32, hy32, hm⟩ := bn hm
      refine cVWv (As := [.ref (ad 1 99)]) (rest := []) (Wn := fun (uu : SV) => wX5 q ad v0 ++ (wX3 q (ad 1) v1 ++ wX3 q (ad 2) uu)) X hP0 hD0 hS0 (fun _ h => Or.inr h) hl0.1 (c_X3_becomes l D q s.heap.size (ad 2) v2 (ad 1) v1 y32 hy32) [18, 19, 20, 21, 22, 23, 24, 25, 26, 27, 28, 29, 6, 7, 8, 9, 10, 11, 12, 13, 14, 15, 16, 17] [0, 1, 2, 3, 4, 5] [0, 1, 2, 3, 4, 5, 18, 19, 20, 21, 22, 23, 24, 25, 26, 27, 28, 29, 6, 7, 8, 9, 10, 11, 12, 13, 14, 15, 16, 17] rfl (Wr := wX5 q ad v0) rfl (by decide) (by decide) (by decide) (by decide) (fun _ => rfl) 18 rfl rfl rfl k_504 mX3_becomes ⟨rfl, rfl⟩ ⟨Nat.le_of_ble_eq_true rfl, Nat.le_of_ble_eq_true rfl⟩ rfl rfl (Nat.le_of_ble_eq_true rfl) dX5_when_32 ⟨Nat.zero_le _, Nat.zero_le _⟩ (fun H1 locs1 hP hD hS1 => ?_)
      have hP1 : va_P D cls (wX5 q ad v0 ++ (wX3 q (ad 1) v1 ++ wX3 q (ad 2) y32)) H1 := hP
      have hD1 : va_D (va_A (wX5 q ad v0 ++ (wX3 q (ad 1) v1 ++ wX3 q (ad 2) v2)) s.heap.size) (wX5 q ad v0 ++ (wX3 q (ad 1) v1 ++ wX3 q (ad 2) y32)) := hD
      clear hP hD hP0 hD0 hS0
      refine lv_iconst (v := (0 : Int32)) hx hb dX5_when_35 (by decide) ?_
      refine lv_istore_n (lv' := [(3, .int (0 : Int32)), (0, .ref (ad 0 99)), (1, .int x1), (2, .int x2)]) hx hb dX5_when_36 rfl hl0 (by decide) rfl (fun ls2 hl2 => ?_)
      clear hl0
      obtain ⟨r37, hr37, hm⟩ := bn hm
      obtain ⟨n37, hn37⟩ := lpC_ex hr37
      have hE37 : ∀ z37 : Int32 × SV, m_X5_when_K37 z37 = some res → ∀ (H : Heap) (locs : List Loc), va_P D cls (wX5 q ad v0 ++ (wX3 q (ad 1) v1 ++ wX3 q (ad 2) z37.2)) H → va_D (va_A (wX5 q ad v0 ++ (wX3 q (ad 1) v1 ++ wX3 q (ad 2) v2)) s.heap.size) (wX5 q ad v0 ++ (wX3 q (ad 1) v1 ++ wX3 q (ad 2) z37.2)) → va_S (va_A (wX5 q ad v0 ++ (wX3 q (ad 1) v1 ++ wX3 q (ad 2) v2)) s.heap.size) s.heap H locs → ∀ ls : Array Slot, lv_has ls 4 [] → W p l e ((headSpec (mw yX5_when cX5_when 4 (some .int)) ({ frames := 4, cells := 0, slots := 0, locals := 106 } : Room)).room) s m [.ref (ad 0 99), .int x1, .int x2].toArray below meth c H locs 0 0 (MQ below (va_Qi (fun r w => r = res.1 ∧ w = res.2) (bW D q (wX5 q ad v0 ++ (wX3 q (ad 1) v1 ++ wX3 q (ad 2) v2)) s.heap.size (fun (uu : SV) => wX5 q ad v0 ++ (wX3 q (ad 1) v1 ++ wX3 q (ad 2) uu))) (va_A (wX5 q ad v0 ++ (wX3 q (ad 1) v1 ++ wX3 q (ad 2) v2)) s.heap.size)) [.ref (ad 0 99), .int x1, .int x2].toArray s 0 0 (va_A (wX5 q ad v0 ++ (wX3 q (ad 1) v1 ++ wX3 q (ad 2) v2)) s.heap.size)) (F0 m 71 ls []) := by
        intro z37 hm H6 locs6 hP6 hD6 hS6 ls5 hl5
        unfold m_X5_when_K37 at hm
        refine lv_bipush (v := (-4 : Int32)) hx hb dX5_when_71 (by decide) ?_
        exact eWi (Wf := fun (uu : SV) => wX5 q ad v0 ++ (wX3 q (ad 1) v1 ++ wX3 q (ad 2) uu)) (u := z37.2) X hr hlocks hP6 hD6 hS6 hm dX5_when_73
      have hL37 : ∀ (n : Nat) (z37 : Int32 × SV) (ρ37 : (Int32 × SV) ⊕ (Int32 × SV)), lpO (m_X5_when_L37 x1 x2) n z37 = some ρ37 → (Sum.elim (m_X5_when_K37) (fun y => some y)) ρ37 = some res → ∀ (H : Heap) (locs : List Loc), va_P D cls (wX5 q ad v0 ++ (wX3 q (ad 1) v1 ++ wX3 q (ad 2) z37.2)) H → va_D (va_A (wX5 q ad v0 ++ (wX3 q (ad 1) v1 ++ wX3 q (ad 2) v2)) s.heap.size) (wX5 q ad v0 ++ (wX3 q (ad 1) v1 ++ wX3 q (ad 2) z37.2)) → va_S (va_A (wX5 q ad v0 ++ (wX3 q (ad 1) v1 ++ wX3 q (ad 2) v2)) s.heap.size) s.heap H locs → ∀ ls : Array Slot, lv_has ls 4 [(0, .ref (ad 0 99)), (1, .int x1), (2, .int x2), (3, .int z37.1)] → W p l e ((headSpec (mw yX5_when cX5_when 4 (some .int)) ({ frames := 4, cells := 0, slots := 0, locals := 106 } : Room)).room) s m [.ref (ad 0 99), .int x1, .int x2].toArray below meth c H locs 0 0 (MQ below (va_Qi (fun r w => r = res.1 ∧ w = res.2) (bW D q (wX5 q ad v0 ++ (wX3 q (ad 1) v1 ++ wX3 q (ad 2) v2)) s.heap.size (fun (uu : SV) => wX5 q ad v0 ++ (wX3 q (ad 1) v1 ++ wX3 q (ad 2) uu))) (va_A (wX5 q ad v0 ++ (wX3 q (ad 1) v1 ++ wX3 q (ad 2) v2)) s.heap.size)) [.ref (ad 0 99), .int x1, .int x2].toArray s 0 0 (va_A (wX5 q ad v0 ++ (wX3 q (ad 1) v1 ++ wX3 q (ad 2) v2)) s.heap.size)) (F0 m 37 ls []) := by
        intro n
        induction n with
        | zero => intro _ _ h; cases h
        | succ n ih37 =>
          intro z37 ρ37 hz37 hK37 H4 locs4 hP4 hD4 hS4 ls3 hl3
          obtain ⟨t37, hm, hz37⟩ := bn hz37
          unfold m_X5_when_L37 at hm
          refine lv_iload_n hx hb dX5_when_37 rfl (lv_at hl3 3 rfl) ?_
          refine lv_bipush (v := (60 : Int32)) hx hb dX5_when_38 (by decide) ?_
          refine lv_icmp_gt (tgt := 71) hx hb dX5_when_40 (by decide) (fun c40 => ?_) (fun c40 => ?_)
          · replace hm := tp hm c40
            cases hm
            cases hz37
            exact hE37 (z37.1, z37.2) hK37 _ _ hP4 hD4 hS4 _ (lv_sub hl3 [] rfl)
          · replace hm := tn hm c40
            refine lv_aload_n hx hb dX5_when_43 rfl (lv_at hl3 0 rfl) ?_
            refine va_get (D := D) (ci := 5) (v := .ref (ad 2 99)) (C := RX5) (T := TX5) (N := 11) hx hb hW iX5 hown hK hP4 0 rfl rfl 2 (by decide) (hW _ k_310) (fun _ h => h) rfl dX5_when_44 ?_
            refine lv_iload_n hx hb dX5_when_47 rfl (lv_at hl3 1 rfl) ?_
            obtain ⟨y48, hy48, hm⟩ := bn hm
            refine cVRi (As := [.int x1]) (rest := []) X hP4 hl3.1 (c_X3_top l D q (ad 2) z37.2 x1 y48 hy48) [18, 19, 20, 21, 22, 23, 24, 25, 26, 27, 28, 29] rfl 18 rfl rfl rfl k_539 mX3_top ⟨rfl, rfl⟩ ⟨Nat.le_of_ble_eq_true rfl, Nat.le_of_ble_eq_true rfl⟩ rfl rfl (Nat.le_of_ble_eq_true rfl) dX5_when_48 ⟨Nat.zero_le _, Nat.zero_le _⟩ ?_
            refine lv_iload_n hx hb dX5_when_51 rfl (lv_at hl3 2 rfl) ?_
            refine lv_icmp_ne (tgt := 57) hx hb dX5_when_52 (by decide) (fun c52 => ?_) (fun c52 => ?_)
            · replace hm := tn hm c52
              refine lv_aload_n hx hb dX5_when_57 rfl (lv_at hl3 0 rfl) ?_
              refine va_get (D := D) (ci := 5) (v := .ref (ad 2 99)) (C := RX5) (T := TX5) (N := 11) hx hb hW iX5 hown hK hP4 0 rfl rfl 2 (by decide) (hW _ k_310) (fun _ h => h) rfl dX5_when_58 ?_
              obtain ⟨y61, hy61, hm⟩ := bn hm
              refine cVWi (As := []) (rest := []) (Wn := fun (uu : SV) => wX5 q ad v0 ++ (wX3 q (ad 1) v1 ++ wX3 q (ad 2) uu)) X hP4 hD4 hS4 (fun _ h => Or.inr h) hl3.1 (c_X3_passDay l D q H4.size (ad 2) z37.2 y61 hy61) [18, 19, 20, 21, 22, 23, 24, 25, 26, 27, 28, 29] [0, 1, 2, 3, 4, 5, 6, 7, 8, 9, 10, 11, 12, 13, 14, 15, 16, 17] [0, 1, 2, 3, 4, 5, 6, 7, 8, 9, 10, 11, 12, 13, 14, 15, 16, 17, 18, 19, 20, 21, 22, 23, 24, 25, 26, 27, 28, 29] rfl (Wr := wX5 q ad v0 ++ wX3 q (ad 1) v1) rfl (by decide) (by decide) (by decide) (by decide) (fun _ => rfl) 18 rfl rfl rfl k_609 mX3_passDay ⟨rfl, rfl⟩ ⟨Nat.le_of_ble_eq_true rfl, Nat.le_of_ble_eq_true rfl⟩ rfl rfl (Nat.le_of_ble_eq_true rfl) dX5_when_61 ⟨Nat.zero_le _, Nat.zero_le _⟩ (fun H7 locs7 hP hD hS7 => ?_)
              have hP7 : va_P D cls (wX5 q ad v0 ++ (wX3 q (ad 1) v1 ++ wX3 q (ad 2) y61.2)) H7 := hP
              have hD7 : va_D (va_A (wX5 q ad v0 ++ (wX3 q (ad 1) v1 ++ wX3 q (ad 2) v2)) s.heap.size) (wX5 q ad v0 ++ (wX3 q (ad 1) v1 ++ wX3 q (ad 2) y61.2)) := hD
              clear hP hD hP4 hD4 hS4
              refine lv_pop hx hb dX5_when_64 rfl ?_
              refine lv_iinc (v := (z37.1 + (1 : Int32))) (lv' := [(3, .int (z37.1 + (1 : Int32))), (0, .ref (ad 0 99)), (1, .int x1), (2, .int x2)]) hx hb dX5_when_65 hl3 (k := 3) rfl rfl (by decide) rfl (fun ls8 hl8 => ?_)
              clear hl3
              refine lv_goto (tgt := 37) hx hb dX5_when_68 (by decide) ?_
              cases hm
              exact ih37 ((z37.1 + (1 : Int32)), y61.2) ρ37 hz37 hK37 _ _ hP7 hD7 hS7 _ (lv_sub hl8 [1, 2, 3, 0] rfl)
            · replace hm := tp hm c52
              refine lv_iload_n hx hb dX5_when_55 rfl (lv_at hl3 3 rfl) ?_
              cases hm
              cases hz37
              have hm : (some (z37.1, z37.2) : Option (Int32 × SV)) = some res := hK37
              exact eWi (Wf := fun (uu : SV) => wX5 q ad v0 ++ (wX3 q (ad 1) v1 ++ wX3 q (ad 2) uu)) (u := z37.2) X hr hlocks hP4 hD4 hS4 hm dX5_when_56
      exact hL37 n37 ((0 : Int32), y32) r37 hn37 hm _ _ hP1 hD1 hS1 _ (lv_sub hl2 [1, 2, 3, 0] rfl)
    · replace hm := tp hm c19
      refine lv_iconst (v := (-1 : Int32)) hx hb dX5_when_22 (by decide) ?_
      exact eWi (Wf := fun (uu : SV) => wX5 q ad v0 ++ (wX3 q (ad 1) v1 ++ wX3 q (ad 2) uu)) (u := v2) X hr hlocks hP0 hD0 hS0 hm dX5_when_23
noncomputable def m_X5_allHaveHadAlike_K4 (z4 : Int32 × Int32 × SV) : Option (Int32 × SV) :=
  ck (nzB z4.1) (some (z4.1, z4.2.2))
noncomputable def m_X5_allHaveHadAlike_L4 (v2 : SV) (z4 : Int32 × Int32 × SV) : Option ((Int32 × Int32 × SV) ⊕ (Int32 × Int32 × SV)) :=
  (if (v2 0 1) ≤ z4.2.1 then some (.inr (z4.1, z4.2.1, z4.2.2)) else ck (inB z4.2.1 5) ((m_X3_income v2 z4.2.1).bind (fun y27 => ck (inB z4.2.1 5) (lett (up2 z4.2.2 8 ((z4.2.1).toNatClampNeg) ((z4.2.2 8 ((z4.2.1).toNatClampNeg)) + y27)) (fun v9_ => (if z4.1 = 0 then some (.inl ((0 : Int32), (z4.2.1 + (1 : Int32)), v9_)) else ck (inB z4.2.1 5) ((if (v9_ 8 ((z4.2.1).toNatClampNeg)) = (v9_ 8 (Int32.toNatClampNeg (0 : Int32))) then some (.inl ((1 : Int32), (z4.2.1 + (1 : Int32)), v9_)) else some (.inl ((0 : Int32), (z4.2.1 + (1 : Int32)), v9_))))))))))
noncomputable def m_X5_allHaveHadAlike (v0 : SV) (v2 : SV) : Option (Int32 × SV) :=
  (lpC (m_X5_allHaveHadAlike_L4 v2) ((1 : Int32), (0 : Int32), v0)).bind (m_X5_allHaveHadAlike_K4)
set_option maxHeartbeats 4000000 in
set_option maxRecDepth 100000 in
theorem c_X5_allHaveHadAlike (l : Launch) (D : va_G) (q : Nat → ClassId) (sz : Nat) (ad : Nat → Nat → Nat) (v0 : SV) (v2 : SV) (res : Int32 × SV) (hm : m_X5_allHaveHadAlike v0 v2 = some res) : Met l yX5_allHaveHadAlike (mw yX5_allHaveHadAlike cX5_allHaveHadAlike 3 (some .boolean)) ({ frames := 3, cells := 0, slots := 0, locals := 65 } : Room) (pcW D q (wX5 q ad v0 ++ wX3 q (ad 2) v2) sz [.ref (ad 0 99)]) (va_Qi (fun r w => r = res.1 ∧ w = res.2) (bW D q (wX5 q ad v0 ++ wX3 q (ad 2) v2) sz (fun (uu : SV) => wX5 q ad uu ++ wX3 q (ad 2) v2)) (va_A (wX5 q ad v0 ++ wX3 q (ad 2) v2) sz)) 0 0 (va_A (wX5 q ad v0 ++ wX3 q (ad 2) v2) sz) := by
  refine Met.ofW (cc := cX5_allHaveHadAlike) (maxL := 3) (ret := (some .boolean)) (by decide) rfl ?_
  intro p e s m args below meth c s₁ B hml hv
  obtain ⟨rfl, hsz, hP0, hK, hD0⟩ := hv
  have hx := B.exec
  have hb := B.bytes
  have hr := B.returns
  have hW := mw_ws (atoms_spec (ws := mw yX5_allHaveHadAlike cX5_allHaveHadAlike 3 (some .boolean)) B.pre)
  have hown : s.vm.findClass RX5 = some m.cls := findClass_of_methodNamed B.named
  have hlocks := B.notSynchronized
  have X : Cx p s m [.ref (ad 0 99)].toArray c cX5_allHaveHadAlike 3 RX5 D q := ⟨hx, hb, hml, hown, hW, hK⟩
  subst hsz
  replace hD0 := hD0.self (sz := s.heap.size)
  have hS0 : va_S (va_A (wX5 q ad v0 ++ wX3 q (ad 2) v2) s.heap.size) s.heap s.heap [] := va_S.rf
  have hl0 := lv_entry ([.ref (ad 0 99)]) (n := 3) (Nat.le_of_ble_eq_true rfl)
  rw [lg_entry_eq]
  generalize (lg_sl ([.ref (ad 0 99)]) ++ List.replicate (3 - (lg_sl ([.ref (ad 0 99)])).length) Slot.unset).toArray = ls0 at hl0 ⊢
  have hl0 : lv_has ls0 3 [(0, .ref (ad 0 99))] := hl0
  unfold m_X5_allHaveHadAlike at hm
  refine lv_iconst (v := (1 : Int32)) hx hb dX5_allHaveHadAlike_0 (by decide) ?_
  refine lv_istore_n (lv' := [(1, .int (1 : Int32)), (0, .ref (ad 0 99))]) hx hb dX5_allHaveHadAlike_1 rfl hl0 (by decide) rfl (fun ls1 hl1 => ?_)
  clear hl0
  refine lv_iconst (v := (0 : Int32)) hx hb dX5_allHaveHadAlike_2 (by decide) ?_
  refine lv_istore_n (lv' := [(2, .int (0 : Int32)), (1, .int (1 : Int32)), (0, .ref (ad 0 99))]) hx hb dX5_allHaveHadAlike_3 rfl hl1 (by decide) rfl (fun ls2 hl2 => ?_)
  clear hl1
  obtain ⟨r4, hr4, hm⟩ := bn hm
  obtain ⟨n4, hn4⟩ := lpC_ex hr4
  have hE4 : ∀ z4 : Int32 × Int32 × SV, m_X5_allHaveHadAlike_K4 z4 = some res → ∀ (H : Heap) (locs : List Loc), va_P D cls (wX5 q ad z4.2.2 ++ wX3 q (ad 2) v2) H → va_D (va_A (wX5 q ad v0 ++ wX3 q (ad 2) v2) s.heap.size) (wX5 q ad z4.2.2 ++ wX3 q (ad 2) v2) → va_S (va_A (wX5 q ad v0 ++ wX3 q (ad 2) v2) s.heap.size) s.heap H locs → ∀ ls : Array Slot, lv_has ls 3 [(1, .int z4.1)] → W p l e ((headSpec (mw yX5_allHaveHadAlike cX5_allHaveHadAlike 3 (some .boolean)) ({ frames := 3, cells := 0, slots := 0, locals := 65 } : Room)).room) s m [.ref (ad 0 99)].toArray below meth c H locs 0 0 (MQ below (va_Qi (fun r w => r = res.1 ∧ w = res.2) (bW D q (wX5 q ad v0 ++ wX3 q (ad 2) v2) s.heap.size (fun (uu : SV) => wX5 q ad uu ++ wX3 q (ad 2) v2)) (va_A (wX5 q ad v0 ++ wX3 q (ad 2) v2) s.heap.size)) [.ref (ad 0 99)].toArray s 0 0 (va_A (wX5 q ad v0 ++ wX3 q (ad 2) v2) s.heap.size)) (F0 m 63 ls []) := by
    intro z4 hm H6 locs6 hP6 hD6 hS6 ls5 hl5
    unfold m_X5_allHaveHadAlike_K4 at hm
    refine lv_iload_n hx hb dX5_allHaveHadAlike_63 rfl (lv_at hl5 0 rfl) ?_
    obtain ⟨hz0, hm⟩ := ckd hm
    have hnz := nz_nar hz0
    exact eWz (Wf := fun (uu : SV) => wX5 q ad uu ++ wX3 q (ad 2) v2) (u := z4.2.2) X hr hlocks hnz hP6 hD6 hS6 hm dX5_allHaveHadAlike_64
  have hL4 : ∀ (n : Nat) (z4 : Int32 × Int32 × SV) (ρ4 : Int32 × Int32 × SV), lpO (m_X5_allHaveHadAlike_L4 v2) n z4 = some ρ4 → (m_X5_allHaveHadAlike_K4) ρ4 = some res → ∀ (H : Heap) (locs : List Loc), va_P D cls (wX5 q ad z4.2.2 ++ wX3 q (ad 2) v2) H → va_D (va_A (wX5 q ad v0 ++ wX3 q (ad 2) v2) s.heap.size) (wX5 q ad z4.2.2 ++ wX3 q (ad 2) v2) → va_S (va_A (wX5 q ad v0 ++ wX3 q (ad 2) v2) s.heap.size) s.heap H locs → ∀ ls : Array Slot, lv_has ls 3 [(0, .ref (ad 0 99)), (1, .int z4.1), (2, .int z4.2.1)] → W p l e ((headSpec (mw yX5_allHaveHadAlike cX5_allHaveHadAlike 3 (some .boolean)) ({ frames := 3, cells := 0, slots := 0, locals := 65 } : Room)).room) s m [.ref (ad 0 99)].toArray below meth c H locs 0 0 (MQ below (va_Qi (fun r w => r = res.1 ∧ w = res.2) (bW D q (wX5 q ad v0 ++ wX3 q (ad 2) v2) s.heap.size (fun (uu : SV) => wX5 q ad uu ++ wX3 q (ad 2) v2)) (va_A (wX5 q ad v0 ++ wX3 q (ad 2) v2) s.heap.size)) [.ref (ad 0 99)].toArray s 0 0 (va_A (wX5 q ad v0 ++ wX3 q (ad 2) v2) s.heap.size)) (F0 m 4 ls []) := by
    intro n
    induction n with
    | zero => intro _ _ h; cases h
    | succ n ih4 =>
      intro z4 ρ4 hz4 hK4 H4 locs4 hP4 hD4 hS4 ls3 hl3
      obtain ⟨t4, hm, hz4⟩ := bn hz4
      unfold m_X5_allHaveHadAlike_L4 at hm
      refine lv_iload_n hx hb dX5_allHaveHadAlike_4 rfl (lv_at hl3 2 rfl) ?_
      refine lv_aload_n hx hb dX5_allHaveHadAlike_5 rfl (lv_at hl3 0 rfl) ?_
      refine va_get (D := D) (ci := 5) (v := .ref (ad 2 99)) (C := RX5) (T := TX5) (N := 11) hx hb hW iX5 hown hK hP4 0 rfl rfl 2 (by decide) (hW _ k_310) (fun _ h => h) rfl dX5_allHaveHadAlike_6 ?_
      refine va_get (D := D) (ci := 3) (v := .int (v2 0 1)) (C := RX3) (T := TX3) (N := 17) hx hb hW iX3 hown hK hP4 6 rfl rfl 1 (by decide) (hW _ k_89) (fun _ h => h) rfl dX5_allHaveHadAlike_9 ?_
      refine lv_icmp_ge (tgt := 63) hx hb dX5_allHaveHadAlike_12 (by decide) (fun c12 => ?_) (fun c12 => ?_)
      · replace hm := tp hm c12
        cases hm
        cases hz4
        exact hE4 (z4.1, z4.2.1, z4.2.2) hK4 _ _ hP4 hD4 hS4 _ (lv_sub hl3 [1] rfl)
      · replace hm := tn hm c12
        refine lv_aload_n hx hb dX5_allHaveHadAlike_15 rfl (lv_at hl3 0 rfl) ?_
        refine va_get (D := D) (ci := 5) (v := .ref (ad 0 8)) (C := RX5) (T := TX5) (N := 11) hx hb hW iX5 hown hK hP4 0 rfl rfl 8 (by decide) (hW _ k_316) (fun _ h => h) rfl dX5_allHaveHadAlike_16 ?_
        refine lv_iload_n hx hb dX5_allHaveHadAlike_19 rfl (lv_at hl3 2 rfl) ?_
        refine lv_dup2_11 hx hb dX5_allHaveHadAlike_20 rfl rfl ?_
        obtain ⟨h7, hm⟩ := ckd hm
        refine va_iald (f := (z4.2.2 8)) hx hb hK hP4 4 0 rfl rfl (inB_vp h7) dX5_allHaveHadAlike_21 ?_
        refine lv_aload_n hx hb dX5_allHaveHadAlike_22 rfl (lv_at hl3 0 rfl) ?_
        refine va_get (D := D) (ci := 5) (v := .ref (ad 2 99)) (C := RX5) (T := TX5) (N := 11) hx hb hW iX5 hown hK hP4 0 rfl rfl 2 (by decide) (hW _ k_310) (fun _ h => h) rfl dX5_allHaveHadAlike_23 ?_
        refine lv_iload_n hx hb dX5_allHaveHadAlike_26 rfl (lv_at hl3 2 rfl) ?_
        obtain ⟨y27, hy27, hm⟩ := bn hm
        refine cVRi (As := [.int z4.2.1]) (rest := [.int (z4.2.2 8 ((z4.2.1).toNatClampNeg)), .int z4.2.1, .ref (ad 0 8)]) X hP4 hl3.1 (c_X3_income l D q (ad 2) v2 z4.2.1 y27 hy27) [6, 7, 8, 9, 10, 11, 12, 13, 14, 15, 16, 17] rfl 6 rfl rfl rfl k_641 mX3_income ⟨rfl, rfl⟩ ⟨Nat.le_of_ble_eq_true rfl, Nat.le_of_ble_eq_true rfl⟩ rfl rfl (Nat.le_of_ble_eq_true rfl) dX5_allHaveHadAlike_27 ⟨Nat.zero_le _, Nat.zero_le _⟩ ?_
        refine lv_iadd hx hb dX5_allHaveHadAlike_30 ?_
        obtain ⟨h8, hm⟩ := ckd hm
        refine va_iast (f := (z4.2.2 8)) hx hb hK hP4 hD4 hS4 4 0 rfl rfl (inB_vp h8) dX5_allHaveHadAlike_31 (fun H9 locs9 hP hD hS9 => ?_)
        obtain ⟨v9_, e9, hm⟩ := ltd hm
        have hP9 : va_P D cls (wX5 q ad v9_ ++ wX3 q (ad 2) v2) H9 := by rw [e9]; exact hP
        have hD9 : va_D (va_A (wX5 q ad v0 ++ wX3 q (ad 2) v2) s.heap.size) (wX5 q ad v9_ ++ wX3 q (ad 2) v2) := by rw [e9]; exact hD
        clear hP hD hP4 hD4 hS4
        refine lv_iload_n hx hb dX5_allHaveHadAlike_32 rfl (lv_at hl3 1 rfl) ?_
        refine lv_if_eq (tgt := 55) hx hb dX5_allHaveHadAlike_33 (by decide) (fun c33 => ?_) (fun c33 => ?_)
        · replace hm := tp hm c33
          refine lv_iconst (v := (0 : Int32)) hx hb dX5_allHaveHadAlike_55 (by decide) ?_
          refine lv_istore_n (lv' := [(1, .int (0 : Int32)), (0, .ref (ad 0 99)), (2, .int z4.2.1)]) hx hb dX5_allHaveHadAlike_56 rfl hl3 (by decide) rfl (fun ls10 hl10 => ?_)
          clear hl3
          refine lv_iinc (v := (z4.2.1 + (1 : Int32))) (lv' := [(2, .int (z4.2.1 + (1 : Int32))), (1, .int (0 : Int32)), (0, .ref (ad 0 99))]) hx hb dX5_allHaveHadAlike_57 hl10 (k := 2) rfl rfl (by decide) rfl (fun ls11 hl11 => ?_)
          clear hl10
          refine lv_goto (tgt := 4) hx hb dX5_allHaveHadAlike_60 (by decide) ?_
          cases hm
          exact ih4 ((0 : Int32), (z4.2.1 + (1 : Int32)), v9_) ρ4 hz4 hK4 _ _ hP9 hD9 hS9 _ (lv_sub hl11 [2, 1, 0] rfl)
        · replace hm := tn hm c33
          refine lv_aload_n hx hb dX5_allHaveHadAlike_36 rfl (lv_at hl3 0 rfl) ?_
          refine va_get (D := D) (ci := 5) (v := .ref (ad 0 8)) (C := RX5) (T := TX5) (N := 11) hx hb hW iX5 hown hK hP9 0 rfl rfl 8 (by decide) (hW _ k_316) (fun _ h => h) rfl dX5_allHaveHadAlike_37 ?_
          refine lv_iload_n hx hb dX5_allHaveHadAlike_40 rfl (lv_at hl3 2 rfl) ?_
          obtain ⟨h12, hm⟩ := ckd hm
          refine va_iald (f := (v9_ 8)) hx hb hK hP9 4 0 rfl rfl (inB_vp h12) dX5_allHaveHadAlike_41 ?_
          refine lv_aload_n hx hb dX5_allHaveHadAlike_42 rfl (lv_at hl3 0 rfl) ?_
          refine va_get (D := D) (ci := 5) (v := .ref (ad 0 8)) (C := RX5) (T := TX5) (N := 11) hx hb hW iX5 hown hK hP9 0 rfl rfl 8 (by decide) (hW _ k_316) (fun _ h => h) rfl dX5_allHaveHadAlike_43 ?_
          refine lv_iconst (v := (0 : Int32)) hx hb dX5_allHaveHadAlike_46 (by decide) ?_
          refine va_iald (f := (v9_ 8)) hx hb hK hP9 4 0 rfl rfl (inB_vp (by decide)) dX5_allHaveHadAlike_47 ?_
          refine lv_icmp_ne (tgt := 55) hx hb dX5_allHaveHadAlike_48 (by decide) (fun c48 => ?_) (fun c48 => ?_)
          · replace hm := tn hm c48
            refine lv_iconst (v := (0 : Int32)) hx hb dX5_allHaveHadAlike_55 (by decide) ?_
            refine lv_istore_n (lv' := [(1, .int (0 : Int32)), (0, .ref (ad 0 99)), (2, .int z4.2.1)]) hx hb dX5_allHaveHadAlike_56 rfl hl3 (by decide) rfl (fun ls15 hl15 => ?_)
            clear hl3
            refine lv_iinc (v := (z4.2.1 + (1 : Int32))) (lv' := [(2, .int (z4.2.1 + (1 : Int32))), (1, .int (0 : Int32)), (0, .ref (ad 0 99))]) hx hb dX5_allHaveHadAlike_57 hl15 (k := 2) rfl rfl (by decide) rfl (fun ls16 hl16 => ?_)
            clear hl15
            refine lv_goto (tgt := 4) hx hb dX5_allHaveHadAlike_60 (by decide) ?_
            cases hm
            exact ih4 ((0 : Int32), (z4.2.1 + (1 : Int32)), v9_) ρ4 hz4 hK4 _ _ hP9 hD9 hS9 _ (lv_sub hl16 [2, 1, 0] rfl)
          · replace hm := tp hm c48
            refine lv_iconst (v := (1 : Int32)) hx hb dX5_allHaveHadAlike_51 (by decide) ?_
            refine lv_goto (tgt := 56) hx hb dX5_allHaveHadAlike_52 (by decide) ?_
            refine lv_istore_n (lv' := [(1, .int (1 : Int32)), (0, .ref (ad 0 99)), (2, .int z4.2.1)]) hx hb dX5_allHaveHadAlike_56 rfl hl3 (by decide) rfl (fun ls13 hl13 => ?_)
            clear hl3
            refine lv_iinc (v := (z4.2.1 + (1 : Int32))) (lv' := [(2, .int (z4.2.1 + (1 : Int32))), (1, .int (1 : Int32)), (0, .ref (ad 0 99))]) hx hb dX5_allHaveHadAlike_57 hl13 (k := 2) rfl rfl (by decide) rfl (fun ls14 hl14 => ?_)
            clear hl13
            refine lv_goto (tgt := 4) hx hb dX5_allHaveHadAlike_60 (by decide) ?_
            cases hm
            exact ih4 ((1 : Int32), (z4.2.1 + (1 : Int32)), v9_) ρ4 hz4 hK4 _ _ hP9 hD9 hS9 _ (lv_sub hl14 [2, 1, 0] rfl)
  exact hL4 n4 ((1 : Int32), (0 : Int32), v0) r4 hn4 hm _ _ hP0 hD0 hS0 _ (lv_sub hl2 [2, 1, 0] rfl)
noncomputable def m_X5_even_K34 (z34 : Int32 × SV × SV) : Option (Int32 × SV × SV) :=
  some ((-4 : Int32), z34.2.1, z34.2.2)
noncomputable def m_X5_even_L34 (z34 : Int32 × SV × SV) : Option ((Int32 × SV × SV) ⊕ ((Int32 × SV × SV) ⊕ (Int32 × SV × SV))) :=
  (if (60 : Int32) < z34.1 then some (.inr (.inl (z34.1, z34.2.1, z34.2.2))) else (m_X3_passDay z34.2.2).bind (fun y44 => (m_X5_allHaveHadAlike z34.2.1 y44.2).bind (fun y49 => (if y49.1 = 0 then some (.inl ((z34.1 + (1 : Int32)), y49.2, y44.2)) else some (.inr (.inr (z34.1, y49.2, y44.2)))))))
noncomputable def m_X5_even (v0 : SV) (v1 : SV) (v2 : SV) : Option (Int32 × SV × SV) :=
  (if (v1 0 1) = 0 then some ((-4 : Int32), v0, v2) else (m_X3_becomes v2 v1).bind (fun y21 => (m_J7_fill_53178 5 (v0 8) (0 : Int32)).bind (fun y29 => lett (upr v0 8 y29) (fun v2_ => (lpC (m_X5_even_L34) ((1 : Int32), v2_, y21)).bind (Sum.elim (m_X5_even_K34) (fun y => some y))))))
set_option maxHeartbeats 4000000 in
set_option maxRecDepth 100000 in
theorem c_X5_even (l : Launch) (D : va_G) (q : Nat → ClassId) (sz : Nat) (ad : Nat → Nat → Nat) (v0 : SV) (v1 : SV) (v2 : SV) (res : Int32 × SV × SV) (hm : m_X5_even v0 v1 v2 = some res) : Met l yX5_even (mw yX5_even cX5_even 2 (some .int)) ({ frames := 4, cells := 0, slots := 0, locals := 106 } : Room) (pcW D q (wX5 q ad v0 ++ (wX3 q (ad 1) v1 ++ wX3 q (ad 2) v2)) sz [.ref (ad 0 99)]) (va_Qi (fun r w => r = res.1 ∧ w = res.2) (bW D q (wX5 q ad v0 ++ (wX3 q (ad 1) v1 ++ wX3 q (ad 2) v2)) sz (fun (uu : SV × SV) => wX5 q ad uu.1 ++ (wX3 q (ad 1) v1 ++ wX3 q (ad 2) uu.2))) (va_A (wX5 q ad v0 ++ (wX3 q (ad 1) v1 ++ wX3 q (ad 2) v2)) sz)) 0 0 (va_A (wX5 q ad v0 ++ (wX3 q (ad 1) v1 ++ wX3 q (ad 2) v2)) sz) := by
  refine Met.ofW (cc := cX5_even) (maxL := 2) (ret := (some .int)) (by decide) rfl ?_
  intro p e s m args below meth c s₁ B hml hv
  obtain ⟨rfl, hsz, hP0, hK, hD0⟩ := hv
  have hx := B.exec
  have hb := B.bytes
  have hr := B.returns
  have hW := mw_ws (atoms_spec (ws := mw yX5_even cX5_even 2 (some .int)) B.pre)
  have hown : s.vm.findClass RX5 = some m.cls := findClass_of_methodNamed B.named
  have hlocks := B.notSynchronized
  have X : Cx p s m [.ref (ad 0 99)].toArray c cX5_even 2 RX5 D q := ⟨hx, hb, hml, hown, hW, hK⟩
  subst hsz
  replace hD0 := hD0.self (sz := s.heap.size)
  have hS0 : va_S (va_A (wX5 q ad v0 ++ (wX3 q (ad 1) v1 ++ wX3 q (ad 2) v2)) s.heap.size) s.heap s.heap [] := va_S.rf
  have hl0 := lv_entry ([.ref (ad 0 99)]) (n := 2) (Nat.le_of_ble_eq_true rfl)
  rw [lg_entry_eq]
  generalize (lg_sl ([.ref (ad 0 99)]) ++ List.replicate (2 - (lg_sl ([.ref (ad 0 99)])).length) Slot.unset).toArray = ls0 at hl0 ⊢
  have hl0 : lv_has ls0 2 [(0, .ref (ad 0 99))] := hl0
  unfold m_X5_even at hm
  refine lv_aload_n hx hb dX5_even_0 rfl (lv_at hl0 0 rfl) ?_
  refine va_get (D := D) (ci := 5) (v := .ref (ad 1 99)) (C := RX5) (T := TX5) (N := 11) hx hb hW iX5 hown hK hP0 0 rfl rfl 1 (by decide) (hW _ k_309) (fun _ h => h) rfl dX5_even_1 ?_
  refine va_get (D := D) (ci := 3) (v := .int (v1 0 1)) (C := RX3) (T := TX3) (N := 17) hx hb hW iX3 hown hK hP0 6 rfl rfl 1 (by decide) (hW _ k_89) (fun _ h => h) rfl dX5_even_4 ?_
  refine lv_if_ne (tgt := 13) hx hb dX5_even_7 (by decide) (fun c7 => ?_) (fun c7 => ?_)
  · replace hm := tn hm c7
    refine lv_aload_n hx hb dX5_even_13 rfl (lv_at hl0 0 rfl) ?_
    refine va_get (D := D) (ci := 5) (v := .ref (ad 2 99)) (C := RX5) (T := TX5) (N := 11) hx hb hW iX5 hown hK hP0 0 rfl rfl 2 (by decide) (hW _ k_310) (fun _ h => h) rfl dX5_even_14 ?_
    refine lv_aload_n hx hb dX5_even_17 rfl (lv_at hl0 0 rfl) ?_
    refine va_get (D := D) (ci := 5) (v := .ref (ad 1 99)) (C := RX5) (T := TX5) (N := 11) hx hb hW iX5 hown hK hP0 0 rfl rfl 1 (by decide) (hW _ k_309) (fun _ h => h) rfl dX5_even_18 ?_
    obtain ⟨y21, hy21, hm⟩ := bn hm
    refine cVWv (As := [.ref (ad 1 99)]) (rest := []) (Wn := fun (uu : SV) => wX5 q ad v0 ++ (wX3 q (ad 1) v1 ++ wX3 q (ad 2) uu)) X hP0 hD0 hS0 (fun _ h => Or.inr h) hl0.1 (c_X3_becomes l D q s.heap.size (ad 2) v2 (ad 1) v1 y21 hy21) [18, 19, 20, 21, 22, 23, 24, 25, 26, 27, 28, 29, 6, 7, 8, 9, 10, 11, 12, 13, 14, 15, 16, 17] [0, 1, 2, 3, 4, 5] [0, 1, 2, 3, 4, 5, 18, 19, 20, 21, 22, 23, 24, 25, 26, 27, 28, 29, 6, 7, 8, 9, 10, 11, 12, 13, 14, 15, 16, 17] rfl (Wr := wX5 q ad v0) rfl (by decide) (by decide) (by decide) (by decide) (fun _ => rfl) 18 rfl rfl rfl k_504 mX3_becomes ⟨rfl, rfl⟩ ⟨Nat.le_of_ble_eq_true rfl, Nat.le_of_ble_eq_true rfl⟩ rfl rfl (Nat.le_of_ble_eq_true rfl) dX5_even_21 ⟨Nat.zero_le _, Nat.zero_le _⟩ (fun H1 locs1 hP hD hS1 => ?_)
    have hP1 : va_P D cls (wX5 q ad v0 ++ (wX3 q (ad 1) v1 ++ wX3 q (ad 2) y21)) H1 := hP
    have hD1 : va_D (va_A (wX5 q ad v0 ++ (wX3 q (ad 1) v1 ++ wX3 q (ad 2) v2)) s.heap.size) (wX5 q ad v0 ++ (wX3 q (ad 1) v1 ++ wX3 q (ad 2) y21)) := hD
    clear hP hD hP0 hD0 hS0
    refine lv_aload_n hx hb dX5_even_24 rfl (lv_at hl0 0 rfl) ?_
    refine va_get (D := D) (ci := 5) (v := .ref (ad 0 8)) (C := RX5) (T := TX5) (N := 11) hx hb hW iX5 hown hK hP1 0 rfl rfl 8 (by decide) (hW _ k_316) (fun _ h => h) rfl dX5_even_25 ?_
    refine lv_iconst (v := (0 : Int32)) hx hb dX5_even_28 (by decide) ?_
    obtain ⟨y29, hy29, hm⟩ := bn hm
    refine cSWv (As := [.ref (ad 0 8), .int (0 : Int32)]) (rest := []) (Wn := fun (uu : (Nat → Int32)) => wX5 q ad (upr v0 8 uu) ++ (wX3 q (ad 1) v1 ++ wX3 q (ad 2) y21)) X hP1 hD1 hS1 (fun _ h => Or.inr h) hl0.1 (c_J7_fill_53178 l D q H1.size (ad 0 8) 5 (v0 8) (0 : Int32) y29 hy29) [4] [0, 1, 2, 3, 5, 6, 7, 8, 9, 10, 11, 12, 13, 14, 15, 16, 17, 18, 19, 20, 21, 22, 23, 24, 25, 26, 27, 28, 29] [0, 1, 2, 3, 29, 4, 5, 6, 7, 8, 9, 10, 11, 12, 13, 14, 15, 16, 17, 18, 19, 20, 21, 22, 23, 24, 25, 26, 27, 28] rfl (Wr := [0, 1, 2, 3, 5, 6, 7, 8, 9, 10, 11, 12, 13, 14, 15, 16, 17, 18, 19, 20, 21, 22, 23, 24, 25, 26, 27, 28, 29].filterMap (fun i => (wX5 q ad v0 ++ (wX3 q (ad 1) v1 ++ wX3 q (ad 2) y21))[i]?)) rfl (by decide) (by decide) (by decide) (by decide) (fun _ => rfl) k_636 mJ7_fill_53178 ⟨rfl, rfl⟩ ⟨Nat.le_of_ble_eq_true rfl, Nat.le_of_ble_eq_true rfl⟩ rfl rfl (Nat.le_of_ble_eq_true rfl) dX5_even_29 ⟨Nat.zero_le _, Nat.zero_le _⟩ (fun H2 locs2 hP hD hS2 => ?_)
    obtain ⟨v2_, e2, hm⟩ := ltd hm
    have hP2 : va_P D cls (wX5 q ad v2_ ++ (wX3 q (ad 1) v1 ++ wX3 q (ad 2) y21)) H2 := by rw [e2]; exact hP
    have hD2 : va_D (va_A (wX5 q ad v0 ++ (wX3 q (ad 1) v1 ++ wX3 q (ad 2) v2)) s.heap.size) (wX5 q ad v2_ ++ (wX3 q (ad 1) v1 ++ wX3 q (ad 2) y21)) := by rw [e2]; exact hD
    clear hP hD hP1 hD1 hS1
    refine lv_iconst (v := (1 : Int32)) hx hb dX5_even_32 (by decide) ?_
    refine lv_istore_n (lv' := [(1, .int (1 : Int32)), (0, .ref (ad 0 99))]) hx hb dX5_even_33 rfl hl0 (by decide) rfl (fun ls3 hl3 => ?_)
    clear hl0
    obtain ⟨r34, hr34, hm⟩ := bn hm
    obtain ⟨n34, hn34⟩ := lpC_ex hr34
    have hE34 : ∀ z34 : Int32 × SV × SV, m_X5_even_K34 z34 = some res → ∀ (H : Heap) (locs : List Loc), va_P D cls (wX5 q ad z34.2.1 ++ (wX3 q (ad 1) v1 ++ wX3 q (ad 2) z34.2.2)) H → va_D (va_A (wX5 q ad v0 ++ (wX3 q (ad 1) v1 ++ wX3 q (ad 2) v2)) s.heap.size) (wX5 q ad z34.2.1 ++ (wX3 q (ad 1) v1 ++ wX3 q (ad 2) z34.2.2)) → va_S (va_A (wX5 q ad v0 ++ (wX3 q (ad 1) v1 ++ wX3 q (ad 2) v2)) s.heap.size) s.heap H locs → ∀ ls : Array Slot, lv_has ls 2 [] → W p l e ((headSpec (mw yX5_even cX5_even 2 (some .int)) ({ frames := 4, cells := 0, slots := 0, locals := 106 } : Room)).room) s m [.ref (ad 0 99)].toArray below meth c H locs 0 0 (MQ below (va_Qi (fun r w => r = res.1 ∧ w = res.2) (bW D q (wX5 q ad v0 ++ (wX3 q (ad 1) v1 ++ wX3 q (ad 2) v2)) s.heap.size (fun (uu : SV × SV) => wX5 q ad uu.1 ++ (wX3 q (ad 1) v1 ++ wX3 q (ad 2) uu.2))) (va_A (wX5 q ad v0 ++ (wX3 q (ad 1) v1 ++ wX3 q (ad 2) v2)) s.heap.size)) [.ref (ad 0 99)].toArray s 0 0 (va_A (wX5 q ad v0 ++ (wX3 q (ad 1) v1 ++ wX3 q (ad 2) v2)) s.heap.size)) (F0 m 63 ls []) := by
      intro z34 hm H7 locs7 hP7 hD7 hS7 ls6 hl6
      unfold m_X5_even_K34 at hm
      refine lv_bipush (v := (-4 : Int32)) hx hb dX5_even_63 (by decide) ?_
      exact eWi (Wf := fun (uu : SV × SV) => wX5 q ad uu.1 ++ (wX3 q (ad 1) v1 ++ wX3 q (ad 2) uu.2)) (u := (z34.2.1, z34.2.2)) X hr hlocks hP7 hD7 hS7 hm dX5_even_65
    have hL34 : ∀ (n : Nat) (z34 : Int32 × SV × SV) (ρ34 : (Int32 × SV × SV) ⊕ (Int32 × SV × SV)), lpO (m_X5_even_L34) n z34 = some ρ34 → (Sum.elim (m_X5_even_K34) (fun y => some y)) ρ34 = some res → ∀ (H : Heap) (locs : List Loc), va_P D cls (wX5 q ad z34.2.1 ++ (wX3 q (ad 1) v1 ++ wX3 q (ad 2) z34.2.2)) H → va_D (va_A (wX5 q ad v0 ++ (wX3 q (ad 1) v1 ++ wX3 q (ad 2) v2)) s.heap.size) (wX5 q ad z34.2.1 ++ (wX3 q (ad 1) v1 ++ wX3 q (ad 2) z34.2.2)) → va_S (va_A (wX5 q ad v0 ++ (wX3 q (ad 1) v1 ++ wX3 q (ad 2) v2)) s.heap.size) s.heap H locs → ∀ ls : Array Slot, lv_has ls 2 [(0, .ref (ad 0 99)), (1, .int z34.1)] → W p l e ((headSpec (mw yX5_even cX5_even 2 (some .int)) ({ frames := 4, cells := 0, slots := 0, locals := 106 } : Room)).room) s m [.ref (ad 0 99)].toArray below meth c H locs 0 0 (MQ below (va_Qi (fun r w => r = res.1 ∧ w = res.2) (bW D q (wX5 q ad v0 ++ (wX3 q (ad 1) v1 ++ wX3 q (ad 2) v2)) s.heap.size (fun (uu : SV × SV) => wX5 q ad uu.1 ++ (wX3 q (ad 1) v1 ++ wX3 q (ad 2) uu.2))) (va_A (wX5 q ad v0 ++ (wX3 q (ad 1) v1 ++ wX3 q (ad 2) v2)) s.heap.size)) [.ref (ad 0 99)].toArray s 0 0 (va_A (wX5 q ad v0 ++ (wX3 q (ad 1) v1 ++ wX3 q (ad 2) v2)) s.heap.size)) (F0 m 34 ls []) := by
      intro n
      induction n with
      | zero => intro _ _ h; cases h
      | succ n ih34 =>
        intro z34 ρ34 hz34 hK34 H5 locs5 hP5 hD5 hS5 ls4 hl4
        obtain ⟨t34, hm, hz34⟩ := bn hz34
        unfold m_X5_even_L34 at hm
        refine lv_iload_n hx hb dX5_even_34 rfl (lv_at hl4 1 rfl) ?_
        refine lv_bipush (v := (60 : Int32)) hx hb dX5_even_35 (by decide) ?_
        refine lv_icmp_gt (tgt := 63) hx hb dX5_even_37 (by decide) (fun c37 => ?_) (fun c37 => ?_)
        · replace hm := tp hm c37
          cases hm
          cases hz34
          exact hE34 (z34.1, z34.2.1, z34.2.2) hK34 _ _ hP5 hD5 hS5 _ (lv_sub hl4 [] rfl)
        · replace hm := tn hm c37
          refine lv_aload_n hx hb dX5_even_40 rfl (lv_at hl4 0 rfl) ?_
          refine va_get (D := D) (ci := 5) (v := .ref (ad 2 99)) (C := RX5) (T := TX5) (N := 11) hx hb hW iX5 hown hK hP5 0 rfl rfl 2 (by decide) (hW _ k_310) (fun _ h => h) rfl dX5_even_41 ?_
          obtain ⟨y44, hy44, hm⟩ := bn hm
          refine cVWi (As := []) (rest := []) (Wn := fun (uu : SV) => wX5 q ad z34.2.1 ++ (wX3 q (ad 1) v1 ++ wX3 q (ad 2) uu)) X hP5 hD5 hS5 (fun _ h => Or.inr h) hl4.1 (c_X3_passDay l D q H5.size (ad 2) z34.2.2 y44 hy44) [18, 19, 20, 21, 22, 23, 24, 25, 26, 27, 28, 29] [0, 1, 2, 3, 4, 5, 6, 7, 8, 9, 10, 11, 12, 13, 14, 15, 16, 17] [0, 1, 2, 3, 4, 5, 6, 7, 8, 9, 10, 11, 12, 13, 14, 15, 16, 17, 18, 19, 20, 21, 22, 23, 24, 25, 26, 27, 28, 29] rfl (Wr := wX5 q ad z34.2.1 ++ wX3 q (ad 1) v1) rfl (by decide) (by decide) (by decide) (by decide) (fun _ => rfl) 18 rfl rfl rfl k_609 mX3_passDay ⟨rfl, rfl⟩ ⟨Nat.le_of_ble_eq_true rfl, Nat.le_of_ble_eq_true rfl⟩ rfl rfl (Nat.le_of_ble_eq_true rfl) dX5_even_44 ⟨Nat.zero_le _, Nat.zero_le _⟩ (fun H8 locs8 hP hD hS8 => ?_)
          have hP8 : va_P D cls (wX5 q ad z34.2.1 ++ (wX3 q (ad 1) v1 ++ wX3 q (ad 2) y44.2)) H8 := hP
          have hD8 : va_D (va_A (wX5 q ad v0 ++ (wX3 q (ad 1) v1 ++ wX3 q (ad 2) v2)) s.heap.size) (wX5 q ad z34.2.1 ++ (wX3 q (ad 1) v1 ++ wX3 q (ad 2) y44.2)) := hD
          clear hP hD hP5 hD5 hS5
          refine lv_pop hx hb dX5_even_47 rfl ?_
          refine lv_aload_n hx hb dX5_even_48 rfl (lv_at hl4 0 rfl) ?_
          obtain ⟨y49, hy49, hm⟩ := bn hm
          refine cVWi (As := []) (rest := []) (Wn := fun (uu : SV) => wX5 q ad uu ++ (wX3 q (ad 1) v1 ++ wX3 q (ad 2) y44.2)) X hP8 hD8 hS8 (fun _ h => Or.inr h) hl4.1 (c_X5_allHaveHadAlike l D q H8.size ad z34.2.1 y44.2 y49 hy49) [0, 1, 2, 3, 4, 5, 18, 19, 20, 21, 22, 23, 24, 25, 26, 27, 28, 29] [6, 7, 8, 9, 10, 11, 12, 13, 14, 15, 16, 17] [12, 13, 14, 15, 16, 17, 0, 1, 2, 3, 4, 5, 6, 7, 8, 9, 10, 11, 18, 19, 20, 21, 22, 23, 24, 25, 26, 27, 28, 29] rfl (Wr := wX3 q (ad 1) v1) rfl (by decide) (by decide) (by decide) (by decide) (fun _ => rfl) 0 rfl rfl rfl k_637 mX5_allHaveHadAlike ⟨rfl, rfl⟩ ⟨Nat.le_of_ble_eq_true rfl, Nat.le_of_ble_eq_true rfl⟩ rfl rfl (Nat.le_of_ble_eq_true rfl) dX5_even_49 ⟨Nat.zero_le _, Nat.zero_le _⟩ (fun H9 locs9 hP hD hS9 => ?_)
          have hP9 : va_P D cls (wX5 q ad y49.2 ++ (wX3 q (ad 1) v1 ++ wX3 q (ad 2) y44.2)) H9 := hP
          have hD9 : va_D (va_A (wX5 q ad v0 ++ (wX3 q (ad 1) v1 ++ wX3 q (ad 2) v2)) s.heap.size) (wX5 q ad y49.2 ++ (wX3 q (ad 1) v1 ++ wX3 q (ad 2) y44.2)) := hD
          clear hP hD hP8 hD8 hS8
          refine lv_if_eq (tgt := 57) hx hb dX5_even_52 (by decide) (fun c52 => ?_) (fun c52 => ?_)
          · replace hm := tp hm c52
            refine lv_iinc (v := (z34.1 + (1 : Int32))) (lv' := [(1, .int (z34.1 + (1 : Int32))), (0, .ref (ad 0 99))]) hx hb dX5_even_57 hl4 (k := 1) rfl rfl (by decide) rfl (fun ls10 hl10 => ?_)
            clear hl4
            refine lv_goto (tgt := 34) hx hb dX5_even_60 (by decide) ?_
            cases hm
            exact ih34 ((z34.1 + (1 : Int32)), y49.2, y44.2) ρ34 hz34 hK34 _ _ hP9 hD9 hS9 _ (lv_sub hl10 [1, 0] rfl)
          · replace hm := tn hm c52
            refine lv_iload_n hx hb dX5_even_55 rfl (lv_at hl4 1 rfl) ?_
            cases hm
            cases hz34
            have hm : (some (z34.1, y49.2, y44.2) : Option (Int32 × SV × SV)) = some res := hK34
            exact eWi (Wf := fun (uu : SV × SV) => wX5 q ad uu.1 ++ (wX3 q (ad 1) v1 ++ wX3 q (ad 2) uu.2)) (u := (y49.2, y44.2)) X hr hlocks hP9 hD9 hS9 hm dX5_even_56
    exact hL34 n34 ((1 : Int32), v2_, y21) r34 hn34 hm _ _ hP2 hD2 hS2 _ (lv_sub hl3 [1, 0] rfl)
  · replace hm := tp hm c7
    refine lv_bipush (v := (-4 : Int32)) hx hb dX5_even_10 (by decide) ?_
    exact eWi (Wf := fun (uu : SV × SV) => wX5 q ad uu.1 ++ (wX3 q (ad 1) v1 ++ wX3 q (ad 2) uu.2)) (u := (v0, v2)) X hr hlocks hP0 hD0 hS0 hm dX5_even_12
noncomputable def m_X5_many (v0 : SV) (v1 : SV) (v7 : SV) (v8 : SV) : Option (Int32 × SV) :=
  (m_X4_begin v8 v1 v7 (0 : Int32)).bind (fun y5 => (m_X4_howMany y5 v1 v7).bind (fun y12 => some (y12.1, y12.2)))
set_option maxHeartbeats 4000000 in
set_option maxRecDepth 100000 in
theorem c_X5_many (l : Launch) (D : va_G) (q : Nat → ClassId) (sz : Nat) (ad : Nat → Nat → Nat) (v0 : SV) (v1 : SV) (v7 : SV) (v8 : SV) (res : Int32 × SV) (hm : m_X5_many v0 v1 v7 v8 = some res) : Met l yX5_many (mw yX5_many cX5_many 1 (some .int)) ({ frames := 5, cells := 0, slots := 0, locals := 110 } : Room) (pcW D q (wX5 q ad v0 ++ (wX3 q (ad 1) v1 ++ (wX1 q (ad 7) v7 ++ wX4 q (ad 8) v8 (ad 1 99) (ad 7 99)))) sz [.ref (ad 0 99)]) (va_Qi (fun r w => r = res.1 ∧ w = res.2) (bW D q (wX5 q ad v0 ++ (wX3 q (ad 1) v1 ++ (wX1 q (ad 7) v7 ++ wX4 q (ad 8) v8 (ad 1 99) (ad 7 99)))) sz (fun (uu : SV) => wX5 q ad v0 ++ (wX3 q (ad 1) v1 ++ (wX1 q (ad 7) v7 ++ wX4 q (ad 8) uu (ad 1 99) (ad 7 99))))) (va_A (wX5 q ad v0 ++ (wX3 q (ad 1) v1 ++ (wX1 q (ad 7) v7 ++ wX4 q (ad 8) v8 (ad 1 99) (ad 7 99)))) sz)) 0 0 (va_A (wX5 q ad v0 ++ (wX3 q (ad 1) v1 ++ (wX1 q (ad 7) v7 ++ wX4 q (ad 8) v8 (ad 1 99) (ad 7 99)))) sz) := by
  refine Met.ofW (cc := cX5_many) (maxL := 1) (ret := (some .int)) (by decide) rfl ?_
  intro p e s m args below meth c s₁ B hml hv
  obtain ⟨rfl, hsz, hP0, hK, hD0⟩ := hv
  have hx := B.exec
  have hb := B.bytes
  have hr := B.returns
  have hW := mw_ws (atoms_spec (ws := mw yX5_many cX5_many 1 (some .int)) B.pre)
  have hown : s.vm.findClass RX5 = some m.cls := findClass_of_methodNamed B.named
  have hlocks := B.notSynchronized
  have X : Cx p s m [.ref (ad 0 99)].toArray c cX5_many 1 RX5 D q := ⟨hx, hb, hml, hown, hW, hK⟩
  subst hsz
  replace hD0 := hD0.self (sz := s.heap.size)
  have hS0 : va_S (va_A (wX5 q ad v0 ++ (wX3 q (ad 1) v1 ++ (wX1 q (ad 7) v7 ++ wX4 q (ad 8) v8 (ad 1 99) (ad 7 99)))) s.heap.size) s.heap s.heap [] := va_S.rf
  have hl0 := lv_entry ([.ref (ad 0 99)]) (n := 1) (Nat.le_of_ble_eq_true rfl)
  rw [lg_entry_eq]
  generalize (lg_sl ([.ref (ad 0 99)]) ++ List.replicate (1 - (lg_sl ([.ref (ad 0 99)])).length) Slot.unset).toArray = ls0 at hl0 ⊢
  have hl0 : lv_has ls0 1 [(0, .ref (ad 0 99))] := hl0
  unfold m_X5_many at hm
  refine lv_aload_n hx hb dX5_many_0 rfl (lv_at hl0 0 rfl) ?_
  refine va_get (D := D) (ci := 5) (v := .ref (ad 8 99)) (C := RX5) (T := TX5) (N := 11) hx hb hW iX5 hown hK hP0 0 rfl rfl 6 (by decide) (hW _ k_314) (fun _ h => h) rfl dX5_many_1 ?_
  refine lv_iconst (v := (0 : Int32)) hx hb dX5_many_4 (by decide) ?_
  obtain ⟨y5, hy5, hm⟩ := bn hm
  refine cVWv (As := [.int (0 : Int32)]) (rest := []) (Wn := fun (uu : SV) => wX5 q ad v0 ++ (wX3 q (ad 1) v1 ++ (wX1 q (ad 7) v7 ++ wX4 q (ad 8) uu (ad 1 99) (ad 7 99)))) X hP0 hD0 hS0 (fun _ h => Or.inr h) hl0.1 (c_X4_begin l D q s.heap.size (ad 8) v8 (ad 1) v1 (ad 7) v7 (0 : Int32) y5 hy5) [22, 23, 24, 25, 26, 27, 6, 7, 8, 9, 10, 11, 12, 13, 14, 15, 16, 17, 18, 19, 20, 21] [0, 1, 2, 3, 4, 5] [0, 1, 2, 3, 4, 5, 12, 13, 14, 15, 16, 17, 18, 19, 20, 21, 22, 23, 24, 25, 26, 27, 6, 7, 8, 9, 10, 11] rfl (Wr := wX5 q ad v0) rfl (by decide) (by decide) (by decide) (by decide) (fun _ => rfl) 22 rfl rfl rfl k_646 mX4_begin ⟨rfl, rfl⟩ ⟨Nat.le_of_ble_eq_true rfl, Nat.le_of_ble_eq_true rfl⟩ rfl rfl (Nat.le_of_ble_eq_true rfl) dX5_many_5 ⟨Nat.zero_le _, Nat.zero_le _⟩ (fun H1 locs1 hP hD hS1 => ?_)
  have hP1 : va_P D cls (wX5 q ad v0 ++ (wX3 q (ad 1) v1 ++ (wX1 q (ad 7) v7 ++ wX4 q (ad 8) y5 (ad 1 99) (ad 7 99)))) H1 := hP
  have hD1 : va_D (va_A (wX5 q ad v0 ++ (wX3 q (ad 1) v1 ++ (wX1 q (ad 7) v7 ++ wX4 q (ad 8) v8 (ad 1 99) (ad 7 99)))) s.heap.size) (wX5 q ad v0 ++ (wX3 q (ad 1) v1 ++ (wX1 q (ad 7) v7 ++ wX4 q (ad 8) y5 (ad 1 99) (ad 7 99)))) := hD
  clear hP hD hP0 hD0 hS0
  refine lv_aload_n hx hb dX5_many_8 rfl (lv_at hl0 0 rfl) ?_
  refine va_get (D := D) (ci := 5) (v := .ref (ad 8 99)) (C := RX5) (T := TX5) (N := 11) hx hb hW iX5 hown hK hP1 0 rfl rfl 6 (by decide) (hW _ k_314) (fun _ h => h) rfl dX5_many_9 ?_
  obtain ⟨y12, hy12, hm⟩ := bn hm
  refine cVWi (As := []) (rest := []) (Wn := fun (uu : SV) => wX5 q ad v0 ++ (wX3 q (ad 1) v1 ++ (wX1 q (ad 7) v7 ++ wX4 q (ad 8) uu (ad 1 99) (ad 7 99)))) X hP1 hD1 hS1 (fun _ h => Or.inr h) hl0.1 (c_X4_howMany l D q H1.size (ad 8) y5 (ad 1) v1 (ad 7) v7 y12 hy12) [22, 23, 24, 25, 26, 27, 6, 7, 8, 9, 10, 11, 12, 13, 14, 15, 16, 17, 18, 19, 20, 21] [0, 1, 2, 3, 4, 5] [0, 1, 2, 3, 4, 5, 12, 13, 14, 15, 16, 17, 18, 19, 20, 21, 22, 23, 24, 25, 26, 27, 6, 7, 8, 9, 10, 11] rfl (Wr := wX5 q ad v0) rfl (by decide) (by decide) (by decide) (by decide) (fun _ => rfl) 22 rfl rfl rfl k_666 mX4_howMany ⟨rfl, rfl⟩ ⟨Nat.le_of_ble_eq_true rfl, Nat.le_of_ble_eq_true rfl⟩ rfl rfl (Nat.le_of_ble_eq_true rfl) dX5_many_12 ⟨Nat.zero_le _, Nat.zero_le _⟩ (fun H2 locs2 hP hD hS2 => ?_)
  have hP2 : va_P D cls (wX5 q ad v0 ++ (wX3 q (ad 1) v1 ++ (wX1 q (ad 7) v7 ++ wX4 q (ad 8) y12.2 (ad 1 99) (ad 7 99)))) H2 := hP
  have hD2 : va_D (va_A (wX5 q ad v0 ++ (wX3 q (ad 1) v1 ++ (wX1 q (ad 7) v7 ++ wX4 q (ad 8) v8 (ad 1 99) (ad 7 99)))) s.heap.size) (wX5 q ad v0 ++ (wX3 q (ad 1) v1 ++ (wX1 q (ad 7) v7 ++ wX4 q (ad 8) y12.2 (ad 1 99) (ad 7 99)))) := hD
  clear hP hD hP1 hD1 hS1
  exact eWi (Wf := fun (uu : SV) => wX5 q ad v0 ++ (wX3 q (ad 1) v1 ++ (wX1 q (ad 7) v7 ++ wX4 q (ad 8) uu (ad 1 99) (ad 7 99)))) (u := y12.2) X hr hlocks hP2 hD2 hS2 hm dX5_many_15
noncomputable def m_X5_mend (v0 : SV) (v1 : SV) (v7 : SV) (v8 : SV) (x1 : Int32) : Option (Int32 × SV) :=
  (m_X5_within x1 (0 : Int32) (1 : Int32)).bind (fun y3 => (if y3 = 0 then some ((-1 : Int32), v8) else (m_X4_begin v8 v1 v7 (0 : Int32)).bind (fun y16 => (m_X4_priceChanges y16 v1 v7).bind (fun y23 => (m_X4_cheapest y23 v1 v7 x1).bind (fun y31 => some (y31.1, y31.2))))))
set_option maxHeartbeats 4000000 in
set_option maxRecDepth 100000 in
theorem c_X5_mend (l : Launch) (D : va_G) (q : Nat → ClassId) (sz : Nat) (ad : Nat → Nat → Nat) (v0 : SV) (v1 : SV) (v7 : SV) (v8 : SV) (x1 : Int32) (res : Int32 × SV) (hm : m_X5_mend v0 v1 v7 v8 x1 = some res) : Met l yX5_mend (mw yX5_mend cX5_mend 2 (some .int)) ({ frames := 5, cells := 0, slots := 0, locals := 111 } : Room) (pcW D q (wX5 q ad v0 ++ (wX3 q (ad 1) v1 ++ (wX1 q (ad 7) v7 ++ wX4 q (ad 8) v8 (ad 1 99) (ad 7 99)))) sz [.ref (ad 0 99), .int x1]) (va_Qi (fun r w => r = res.1 ∧ w = res.2) (bW D q (wX5 q ad v0 ++ (wX3 q (ad 1) v1 ++ (wX1 q (ad 7) v7 ++ wX4 q (ad 8) v8 (ad 1 99) (ad 7 99)))) sz (fun (uu : SV) => wX5 q ad v0 ++ (wX3 q (ad 1) v1 ++ (wX1 q (ad 7) v7 ++ wX4 q (ad 8) uu (ad 1 99) (ad 7 99))))) (va_A (wX5 q ad v0 ++ (wX3 q (ad 1) v1 ++ (wX1 q (ad 7) v7 ++ wX4 q (ad 8) v8 (ad 1 99) (ad 7 99)))) sz)) 0 0 (va_A (wX5 q ad v0 ++ (wX3 q (ad 1) v1 ++ (wX1 q (ad 7) v7 ++ wX4 q (ad 8) v8 (ad 1 99) (ad 7 99)))) sz) := by
  refine Met.ofW (cc := cX5_mend) (maxL := 2) (ret := (some .int)) (by decide) rfl ?_
  intro p e s m args below meth c s₁ B hml hv
  obtain ⟨rfl, hsz, hP0, hK, hD0⟩ := hv
  have hx := B.exec
  have hb := B.bytes
  have hr := B.returns
  have hW := mw_ws (atoms_spec (ws := mw yX5_mend cX5_mend 2 (some .int)) B.pre)
  have hown : s.vm.findClass RX5 = some m.cls := findClass_of_methodNamed B.named
  have hlocks := B.notSynchronized
  have X : Cx p s m [.ref (ad 0 99), .int x1].toArray c cX5_mend 2 RX5 D q := ⟨hx, hb, hml, hown, hW, hK⟩
  subst hsz
  replace hD0 := hD0.self (sz := s.heap.size)
  have hS0 : va_S (va_A (wX5 q ad v0 ++ (wX3 q (ad 1) v1 ++ (wX1 q (ad 7) v7 ++ wX4 q (ad 8) v8 (ad 1 99) (ad 7 99)))) s.heap.size) s.heap s.heap [] := va_S.rf
  have hl0 := lv_entry ([.ref (ad 0 99), .int x1]) (n := 2) (Nat.le_of_ble_eq_true rfl)
  rw [lg_entry_eq]
  generalize (lg_sl ([.ref (ad 0 99), .int x1]) ++ List.replicate (2 - (lg_sl ([.ref (ad 0 99), .int x1])).length) Slot.unset).toArray = ls0 at hl0 ⊢
  have hl0 : lv_has ls0 2 [(0, .ref (ad 0 99)), (1, .int x1)] := hl0
  unfold m_X5_mend at hm
  refine lv_iload_n hx hb dX5_mend_0 rfl (lv_at hl0 1 rfl) ?_
  refine lv_iconst (v := (0 : Int32)) hx hb dX5_mend_1 (by decide) ?_
  refine lv_iconst (v := (1 : Int32)) hx hb dX5_mend_2 (by decide) ?_
  obtain ⟨y3, hy3, hm⟩ := bn hm
  refine cSRi (As := [.int x1, .int (0 : Int32), .int (1 : Int32)]) (rest := []) X hP0 hl0.1 (c_X5_within l D q x1 (0 : Int32) (1 : Int32) y3 hy3) [] rfl k_346 mX5_within ⟨rfl, rfl⟩ ⟨Nat.le_of_ble_eq_true rfl, Nat.le_of_ble_eq_true rfl⟩ rfl rfl (Nat.le_of_ble_eq_true rfl) dX5_mend_3 ⟨Nat.zero_le _, Nat.zero_le _⟩ ?_
  refine lv_if_ne (tgt := 11) hx hb dX5_mend_6 (by decide) (fun c6 => ?_) (fun c6 => ?_)
  · replace hm := tn hm c6
    refine lv_aload_n hx hb dX5_mend_11 rfl (lv_at hl0 0 rfl) ?_
    refine va_get (D := D) (ci := 5) (v := .ref (ad 8 99)) (C := RX5) (T := TX5) (N := 11) hx hb hW iX5 hown hK hP0 0 rfl rfl 6 (by decide) (hW _ k_314) (fun _ h => h) rfl dX5_mend_12 ?_
    refine lv_iconst (v := (0 : Int32)) hx hb dX5_mend_15 (by decide) ?_
    obtain ⟨y16, hy16, hm⟩ := bn hm
    refine cVWv (As := [.int (0 : Int32)]) (rest := []) (Wn := fun (uu : SV) => wX5 q ad v0 ++ (wX3 q (ad 1) v1 ++ (wX1 q (ad 7) v7 ++ wX4 q (ad 8) uu (ad 1 99) (ad 7 99)))) X hP0 hD0 hS0 (fun _ h => Or.inr h) hl0.1 (c_X4_begin l D q s.heap.size (ad 8) v8 (ad 1) v1 (ad 7) v7 (0 : Int32) y16 hy16) [22, 23, 24, 25, 26, 27, 6, 7, 8, 9, 10, 11, 12, 13, 14, 15, 16, 17, 18, 19, 20, 21] [0, 1, 2, 3, 4, 5] [0, 1, 2, 3, 4, 5, 12, 13, 14, 15, 16, 17, 18, 19, 20, 21, 22, 23, 24, 25, 26, 27, 6, 7, 8, 9, 10, 11] rfl (Wr := wX5 q ad v0) rfl (by decide) (by decide) (by decide) (by decide) (fun _ => rfl) 22 rfl rfl rfl k_646 mX4_begin ⟨rfl, rfl⟩ ⟨Nat.le_of_ble_eq_true rfl, Nat.le_of_ble_eq_true rfl⟩ rfl rfl (Nat.le_of_ble_eq_true rfl) dX5_mend_16 ⟨Nat.zero_le _, Nat.zero_le _⟩ (fun H1 locs1 hP hD hS1 => ?_)
    have hP1 : va_P D cls (wX5 q ad v0 ++ (wX3 q (ad 1) v1 ++ (wX1 q (ad 7) v7 ++ wX4 q (ad 8) y16 (ad 1 99) (ad 7 99)))) H1 := hP
    have hD1 : va_D (va_A (wX5 q ad v0 ++ (wX3 q (ad 1) v1 ++ (wX1 q (ad 7) v7 ++ wX4 q (ad 8) v8 (ad 1 99) (ad 7 99)))) s.heap.size) (wX5 q ad v0 ++ (wX3 q (ad 1) v1 ++ (wX1 q (ad 7) v7 ++ wX4 q (ad 8) y16 (ad 1 99) (ad 7 99)))) := hD
    clear hP hD hP0 hD0 hS0
    refine lv_aload_n hx hb dX5_mend_19 rfl (lv_at hl0 0 rfl) ?_
    refine va_get (D := D) (ci := 5) (v := .ref (ad 8 99)) (C := RX5) (T := TX5) (N := 11) hx hb hW iX5 hown hK hP1 0 rfl rfl 6 (by decide) (hW _ k_314) (fun _ h => h) rfl dX5_mend_20 ?_
    obtain ⟨y23, hy23, hm⟩ := bn hm
    refine cVWv (As := []) (rest := []) (Wn := fun (uu : SV) => wX5 q ad v0 ++ (wX3 q (ad 1) v1 ++ (wX1 q (ad 7) v7 ++ wX4 q (ad 8) uu (ad 1 99) (ad 7 99)))) X hP1 hD1 hS1 (fun _ h => Or.inr h) hl0.1 (c_X4_priceChanges l D q H1.size (ad 8) y16 (ad 1) v1 (ad 7) v7 y23 hy23) [22, 23, 24, 25, 26, 27, 6, 7, 8, 9, 10, 11, 12, 13, 14, 15, 16, 17, 18, 19, 20, 21] [0, 1, 2, 3, 4, 5] [0, 1, 2, 3, 4, 5, 12, 13, 14, 15, 16, 17, 18, 19, 20, 21, 22, 23, 24, 25, 26, 27, 6, 7, 8, 9, 10, 11] rfl (Wr := wX5 q ad v0) rfl (by decide) (by decide) (by decide) (by decide) (fun _ => rfl) 22 rfl rfl rfl k_693 mX4_priceChanges ⟨rfl, rfl⟩ ⟨Nat.le_of_ble_eq_true rfl, Nat.le_of_ble_eq_true rfl⟩ rfl rfl (Nat.le_of_ble_eq_true rfl) dX5_mend_23 ⟨Nat.zero_le _, Nat.zero_le _⟩ (fun H2 locs2 hP hD hS2 => ?_)
    have hP2 : va_P D cls (wX5 q ad v0 ++ (wX3 q (ad 1) v1 ++ (wX1 q (ad 7) v7 ++ wX4 q (ad 8) y23 (ad 1 99) (ad 7 99)))) H2 := hP
    have hD2 : va_D (va_A (wX5 q ad v0 ++ (wX3 q (ad 1) v1 ++ (wX1 q (ad 7) v7 ++ wX4 q (ad 8) v8 (ad 1 99) (ad 7 99)))) s.heap.size) (wX5 q ad v0 ++ (wX3 q (ad 1) v1 ++ (wX1 q (ad 7) v7 ++ wX4 q (ad 8) y23 (ad 1 99) (ad 7 99)))) := hD
    clear hP hD hP1 hD1 hS1
    refine lv_aload_n hx hb dX5_mend_26 rfl (lv_at hl0 0 rfl) ?_
    refine va_get (D := D) (ci := 5) (v := .ref (ad 8 99)) (C := RX5) (T := TX5) (N := 11) hx hb hW iX5 hown hK hP2 0 rfl rfl 6 (by decide) (hW _ k_314) (fun _ h => h) rfl dX5_mend_27 ?_
    refine lv_iload_n hx hb dX5_mend_30 rfl (lv_at hl0 1 rfl) ?_
    obtain ⟨y31, hy31, hm⟩ := bn hm
    refine cVWi (As := [.int x1]) (rest := []) (Wn := fun (uu : SV) => wX5 q ad v0 ++ (wX3 q (ad 1) v1 ++ (wX1 q (ad 7) v7 ++ wX4 q (ad 8) uu (ad 1 99) (ad 7 99)))) X hP2 hD2 hS2 (fun _ h => Or.inr h) hl0.1 (c_X4_cheapest l D q H2.size (ad 8) y23 (ad 1) v1 (ad 7) v7 x1 y31 hy31) [22, 23, 24, 25, 26, 27, 6, 7, 8, 9, 10, 11, 12, 13, 14, 15, 16, 17, 18, 19, 20, 21] [0, 1, 2, 3, 4, 5] [0, 1, 2, 3, 4, 5, 12, 13, 14, 15, 16, 17, 18, 19, 20, 21, 22, 23, 24, 25, 26, 27, 6, 7, 8, 9, 10, 11] rfl (Wr := wX5 q ad v0) rfl (by decide) (by decide) (by decide) (by decide) (fun _ => rfl) 22 rfl rfl rfl k_698 mX4_cheapest ⟨rfl, rfl⟩ ⟨Nat.le_of_ble_eq_true rfl, Nat.le_of_ble_eq_true rfl⟩ rfl rfl (Nat.le_of_ble_eq_true rfl) dX5_mend_31 ⟨Nat.zero_le _, Nat.zero_le _⟩ (fun H3 locs3 hP hD hS3 => ?_)
    have hP3 : va_P D cls (wX5 q ad v0 ++ (wX3 q (ad 1) v1 ++ (wX1 q (ad 7) v7 ++ wX4 q (ad 8) y31.2 (ad 1 99) (ad 7 99)))) H3 := hP
    have hD3 : va_D (va_A (wX5 q ad v0 ++ (wX3 q (ad 1) v1 ++ (wX1 q (ad 7) v7 ++ wX4 q (ad 8) v8 (ad 1 99) (ad 7 99)))) s.heap.size) (wX5 q ad v0 ++ (wX3 q (ad 1) v1 ++ (wX1 q (ad 7) v7 ++ wX4 q (ad 8) y31.2 (ad 1 99) (ad 7 99)))) := hD
    clear hP hD hP2 hD2 hS2
    exact eWi (Wf := fun (uu : SV) => wX5 q ad v0 ++ (wX3 q (ad 1) v1 ++ (wX1 q (ad 7) v7 ++ wX4 q (ad 8) uu (ad 1 99) (ad 7 99)))) (u := y31.2) X hr hlocks hP3 hD3 hS3 hm dX5_mend_34
  · replace hm := tp hm c6
    refine lv_iconst (v := (-1 : Int32)) hx hb dX5_mend_9 (by decide) ?_
    exact eWi (Wf := fun (uu : SV) => wX5 q ad v0 ++ (wX3 q (ad 1) v1 ++ (wX1 q (ad 7) v7 ++ wX4 q (ad 8) uu (ad 1 99) (ad 7 99)))) (u := v8) X hr hlocks hP0 hD0 hS0 hm dX5_mend_10
noncomputable def m_X5_cheap (v0 : SV) (v1 : SV) (v7 : SV) (v8 : SV) (x1 : Int32) (x2 : Int32) : Option (Int32 × SV) :=
  (m_X5_within x1 (1 : Int32) (6 : Int32)).bind (fun y4 => (if y4 = 0 then some ((-1 : Int32), v8) else (m_X5_within x2 (0 : Int32) (1 : Int32)).bind (fun y13 => (if y13 = 0 then some ((-1 : Int32), v8) else (m_X4_begin v8 v1 v7 (0 : Int32)).bind (fun y26 => (m_X4_priceSittings y26 v1 v7).bind (fun y33 => lett (up2 y33 0 3 x1) (fun v3_ => (m_X4_cheapest v3_ v1 v7 x2).bind (fun y49 => some (y49.1, y49.2)))))))))
set_option maxHeartbeats 4000000 in
set_option maxRecDepth 100000 in
theorem c_X5_cheap (l : Launch) (D : va_G) (q : Nat → ClassId) (sz : Nat) (ad : Nat → Nat → Nat) (v0 : SV) (v1 : SV) (v7 : SV) (v8 : SV) (x1 : Int32) (x2 : Int32) (res : Int32 × SV) (hm : m_X5_cheap v0 v1 v7 v8 x1 x2 = some res) : Met l yX5_cheap (mw yX5_cheap cX5_cheap 3 (some .int)) ({ frames := 5, cells := 0, slots := 0, locals := 111 } : Room) (pcW D q (wX5 q ad v0 ++ (wX3 q (ad 1) v1 ++ (wX1 q (ad 7) v7 ++ wX4 q (ad 8) v8 (ad 1 99) (ad 7 99)))) sz [.ref (ad 0 99), .int x1, .int x2]) (va_Qi (fun r w => r = res.1 ∧ w = res.2) (bW D q (wX5 q ad v0 ++ (wX3 q (ad 1) v1 ++ (wX1 q (ad 7) v7 ++ wX4 q (ad 8) v8 (ad 1 99) (ad 7 99)))) sz (fun (uu : SV) => wX5 q ad v0 ++ (wX3 q (ad 1) v1 ++ (wX1 q (ad 7) v7 ++ wX4 q (ad 8) uu (ad 1 99) (ad 7 99))))) (va_A (wX5 q ad v0 ++ (wX3 q (ad 1) v1 ++ (wX1 q (ad 7) v7 ++ wX4 q (ad 8) v8 (ad 1 99) (ad 7 99)))) sz)) 0 0 (va_A (wX5 q ad v0 ++ (wX3 q (ad 1) v1 ++ (wX1 q (ad 7) v7 ++ wX4 q (ad 8) v8 (ad 1 99) (ad 7 99)))) sz) := by
  refine Met.ofW (cc := cX5_cheap) (maxL := 3) (ret := (some .int)) (by decide) rfl ?_
  intro p e s m args below meth c s₁ B hml hv
  obtain ⟨rfl, hsz, hP0, hK, hD0⟩ := hv
  have hx := B.exec
  have hb := B.bytes
  have hr := B.returns
  have hW := mw_ws (atoms_spec (ws := mw yX5_cheap cX5_cheap 3 (some .int)) B.pre)
  have hown : s.vm.findClass RX5 = some m.cls := findClass_of_methodNamed B.named
  have hlocks := B.notSynchronized
  have X : Cx p s m [.ref (ad 0 99), .int x1, .int x2].toArray c cX5_cheap 3 RX5 D q := ⟨hx, hb, hml, hown, hW, hK⟩
  subst hsz
  replace hD0 := hD0.self (sz := s.heap.size)
  have hS0 : va_S (va_A (wX5 q ad v0 ++ (wX3 q (ad 1) v1 ++ (wX1 q (ad 7) v7 ++ wX4 q (ad 8) v8 (ad 1 99) (ad 7 99)))) s.heap.size) s.heap s.heap [] := va_S.rf
  have hl0 := lv_entry ([.ref (ad 0 99), .int x1, .int x2]) (n := 3) (Nat.le_of_ble_eq_true rfl)
  rw [lg_entry_eq]
  generalize (lg_sl ([.ref (ad 0 99), .int x1, .int x2]) ++ List.replicate (3 - (lg_sl ([.ref (ad 0 99), .int x1, .int x2])).length) Slot.unset).toArray = ls0 at hl0 ⊢
  have hl0 : lv_has ls0 3 [(0, .ref (ad 0 99)), (1, .int x1), (2, .int x2)] := hl0
  unfold m_X5_cheap at hm
  refine lv_iload_n hx hb dX5_cheap_0 rfl (lv_at hl0 1 rfl) ?_
  refine lv_iconst (v := (1 : Int32)) hx hb dX5_cheap_1 (by decide) ?_
  refine lv_bipush (v := (6 : Int32)) hx hb dX5_cheap_2 (by decide) ?_
  obtain ⟨y4, hy4, hm⟩ := bn hm
  refine cSRi (As := [.int x1, .int (1 : Int32), .int (6 : Int32)]) (rest := []) X hP0 hl0.1 (c_X5_within l D q x1 (1 : Int32) (6 : Int32) y4 hy4) [] rfl k_346 mX5_within ⟨rfl, rfl⟩ ⟨Nat.le_of_ble_eq_true rfl, Nat.le_of_ble_eq_true rfl⟩ rfl rfl (Nat.le_of_ble_eq_true rfl) dX5_cheap_4 ⟨Nat.zero_le _, Nat.zero_le _⟩ ?_
  refine lv_if_eq (tgt := 19) hx hb dX5_cheap_7 (by decide) (fun c7 => ?_) (fun c7 => ?_)
  · replace hm := tp hm c7
    refine lv_iconst (v := (-1 : Int32)) hx hb dX5_cheap_19 (by decide) ?_
    exact eWi (Wf := fun (uu : SV) => wX5 q ad v0 ++ (wX3 q (ad 1) v1 ++ (wX1 q (ad 7) v7 ++ wX4 q (ad 8) uu (ad 1 99) (ad 7 99)))) (u := v8) X hr hlocks hP0 hD0 hS0 hm dX5_cheap_20
  · replace hm := tn hm c7
    refine lv_iload_n hx hb dX5_cheap_10 rfl (lv_at hl0 2 rfl) ?_
    refine lv_iconst (v := (0 : Int32)) hx hb dX5_cheap_11 (by decide) ?_
    refine lv_iconst (v := (1 : Int32)) hx hb dX5_cheap_12 (by decide) ?_
    obtain ⟨y13, hy13, hm⟩ := bn hm
    refine cSRi (As := [.int x2, .int (0 : Int32), .int (1 : Int32)]) (rest := []) X hP0 hl0.1 (c_X5_within l D q x2 (0 : Int32) (1 : Int32) y13 hy13) [] rfl k_346 mX5_within ⟨rfl, rfl⟩ ⟨Nat.le_of_ble_eq_true rfl, Nat.le_of_ble_eq_true rfl⟩ rfl rfl (Nat.le_of_ble_eq_true rfl) dX5_cheap_13 ⟨Nat.zero_le _, Nat.zero_le _⟩ ?_
    refine lv_if_ne (tgt := 21) hx hb dX5_cheap_16 (by decide) (fun c16 => ?_) (fun c16 => ?_)
    · replace hm := tn hm c16
      refine lv_aload_n hx hb dX5_cheap_21 rfl (lv_at hl0 0 rfl) ?_
      refine va_get (D := D) (ci := 5) (v := .ref (ad 8 99)) (C := RX5) (T := TX5) (N := 11) hx hb hW iX5 hown hK hP0 0 rfl rfl 6 (by decide) (hW _ k_314) (fun _ h => h) rfl dX5_cheap_22 ?_
      refine lv_iconst (v := (0 : Int32)) hx hb dX5_cheap_25 (by decide) ?_
      obtain ⟨y26, hy26, hm⟩ := bn hm
      refine cVWv (As := [.int (0 : Int32)]) (rest := []) (Wn := fun (uu : SV) => wX5 q ad v0 ++ (wX3 q (ad 1) v1 ++ (wX1 q (ad 7) v7 ++ wX4 q (ad 8) uu (ad 1 99) (ad 7 99)))) X hP0 hD0 hS0 (fun _ h => Or.inr h) hl0.1 (c_X4_begin l D q s.heap.size (ad 8) v8 (ad 1) v1 (ad 7) v7 (0 : Int32) y26 hy26) [22, 23, 24, 25, 26, 27, 6, 7, 8, 9, 10, 11, 12, 13, 14, 15, 16, 17, 18, 19, 20, 21] [0, 1, 2, 3, 4, 5] [0, 1, 2, 3, 4, 5, 12, 13, 14, 15, 16, 17, 18, 19, 20, 21, 22, 23, 24, 25, 26, 27, 6, 7, 8, 9, 10, 11] rfl (Wr := wX5 q ad v0) rfl (by decide) (by decide) (by decide) (by decide) (fun _ => rfl) 22 rfl rfl rfl k_646 mX4_begin ⟨rfl, rfl⟩ ⟨Nat.le_of_ble_eq_true rfl, Nat.le_of_ble_eq_true rfl⟩ rfl rfl (Nat.le_of_ble_eq_true rfl) dX5_cheap_26 ⟨Nat.zero_le _, Nat.zero_le _⟩ (fun H1 locs1 hP hD hS1 => ?_)
      have hP1 : va_P D cls (wX5 q ad v0 ++ (wX3 q (ad 1) v1 ++ (wX1 q (ad 7) v7 ++ wX4 q (ad 8) y26 (ad 1 99) (ad 7 99)))) H1 := hP
      have hD1 : va_D (va_A (wX5 q ad v0 ++ (wX3 q (ad 1) v1 ++ (wX1 q (ad 7) v7 ++ wX4 q (ad 8) v8 (ad 1 99) (ad 7 99)))) s.heap.size) (wX5 q ad v0 ++ (wX3 q (ad 1) v1 ++ (wX1 q (ad 7) v7 ++ wX4 q (ad 8) y26 (ad 1 99) (ad 7 99)))) := hD
      clear hP hD hP0 hD0 hS0
      refine lv_aload_n hx hb dX5_cheap_29 rfl (lv_at hl0 0 rfl) ?_
      refine va_get (D := D) (ci := 5) (v := .ref (ad 8 99)) (C := RX5) (T := TX5) (N := 11) hx hb hW iX5 hown hK hP1 0 rfl rfl 6 (by decide) (hW _ k_314) (fun _ h => h) rfl dX5_cheap_30 ?_
      obtain ⟨y33, hy33, hm⟩ := bn hm
      refine cVWv (As := []) (rest := []) (Wn := fun (uu : SV) => wX5 q ad v0 ++ (wX3 q (ad 1) v1 ++ (wX1 q (ad 7) v7 ++ wX4 q (ad 8) uu (ad 1 99) (ad 7 99)))) X hP1 hD1 hS1 (fun _ h => Or.inr h) hl0.1 (c_X4_priceSittings l D q H1.size (ad 8) y26 (ad 1) v1 (ad 7) v7 y33 hy33) [22, 23, 24, 25, 26, 27, 6, 7, 8, 9, 10, 11, 12, 13, 14, 15, 16, 17, 18, 19, 20, 21] [0, 1, 2, 3, 4, 5] [0, 1, 2, 3, 4, 5, 12, 13, 14, 15, 16, 17, 18, 19, 20, 21, 22, 23, 24, 25, 26, 27, 6, 7, 8, 9, 10, 11] rfl (Wr := wX5 q ad v0) rfl (by decide) (by decide) (by decide) (by decide) (fun _ => rfl) 22 rfl rfl rfl k_710 mX4_priceSittings ⟨rfl, rfl⟩ ⟨Nat.le_of_ble_eq_true rfl, Nat.le_of_ble_eq_true rfl⟩ rfl rfl (Nat.le_of_ble_eq_true rfl) dX5_cheap_33 ⟨Nat.zero_le _, Nat.zero_le _⟩ (fun H2 locs2 hP hD hS2 => ?_)
      have hP2 : va_P D cls (wX5 q ad v0 ++ (wX3 q (ad 1) v1 ++ (wX1 q (ad 7) v7 ++ wX4 q (ad 8) y33 (ad 1 99) (ad 7 99)))) H2 := hP
      have hD2 : va_D (va_A (wX5 q ad v0 ++ (wX3 q (ad 1) v1 ++ (wX1 q (ad 7) v7 ++ wX4 q (ad 8) v8 (ad 1 99) (ad 7 99)))) s.heap.size) (wX5 q ad v0 ++ (wX3 q (ad 1) v1 ++ (wX1 q (ad 7) v7 ++ wX4 q (ad 8) y33 (ad 1 99) (ad 7 99)))) := hD
      clear hP hD hP1 hD1 hS1
      refine lv_aload_n hx hb dX5_cheap_36 rfl (lv_at hl0 0 rfl) ?_
      refine va_get (D := D) (ci := 5) (v := .ref (ad 8 99)) (C := RX5) (T := TX5) (N := 11) hx hb hW iX5 hown hK hP2 0 rfl rfl 6 (by decide) (hW _ k_314) (fun _ h => h) rfl dX5_cheap_37 ?_
      refine lv_iload_n hx hb dX5_cheap_40 rfl (lv_at hl0 1 rfl) ?_
      refine va_put (D := D) (ci := 4) (v := .int x1) (ty := .int) (C := RX4) (T := TX4) (N := 12) hx hb hW iX4 tyX4 tyX4_ok nmX4 hown hK hP2 hD2 hS2 22 rfl rfl 3 (by decide) (hW _ k_255) (fun _ h => h) rfl (by decide +kernel) rfl rfl (Nat.le_of_ble_eq_true rfl) dX5_cheap_41 (fun H3 locs3 hP hD hS3 => ?_)
      obtain ⟨v3_, e3, hm⟩ := ltd hm
      have hP3 : va_P D cls (wX5 q ad v0 ++ (wX3 q (ad 1) v1 ++ (wX1 q (ad 7) v7 ++ wX4 q (ad 8) v3_ (ad 1 99) (ad 7 99)))) H3 := by rw [e3]; exact hP
      have hD3 : va_D (va_A (wX5 q ad v0 ++ (wX3 q (ad 1) v1 ++ (wX1 q (ad 7) v7 ++ wX4 q (ad 8) v8 (ad 1 99) (ad 7 99)))) s.heap.size) (wX5 q ad v0 ++ (wX3 q (ad 1) v1 ++ (wX1 q (ad 7) v7 ++ wX4 q (ad 8) v3_ (ad 1 99) (ad 7 99)))) := by rw [e3]; exact hD
      clear hP hD hP2 hD2 hS2
      refine lv_aload_n hx hb dX5_cheap_44 rfl (lv_at hl0 0 rfl) ?_
      refine va_get (D := D) (ci := 5) (v := .ref (ad 8 99)) (C := RX5) (T := TX5) (N := 11) hx hb hW iX5 hown hK hP3 0 rfl rfl 6 (by decide) (hW _ k_314) (fun _ h => h) rfl dX5_cheap_45 ?_
      refine lv_iload_n hx hb dX5_cheap_48 rfl (lv_at hl0 2 rfl) ?_
      obtain ⟨y49, hy49, hm⟩ := bn hm
      refine cVWi (As := [.int x2]) (rest := []) (Wn := fun (uu : SV) => wX5 q ad v0 ++ (wX3 q (ad 1) v1 ++ (wX1 q (ad 7) v7 ++ wX4 q (ad 8) uu (ad 1 99) (ad 7 99)))) X hP3 hD3 hS3 (fun _ h => Or.inr h) hl0.1 (c_X4_cheapest l D q H3.size (ad 8) v3_ (ad 1) v1 (ad 7) v7 x2 y49 hy49) [22, 23, 24, 25, 26, 27, 6, 7, 8, 9, 10, 11, 12, 13, 14, 15, 16, 17, 18, 19, 20, 21] [0, 1, 2, 3, 4, 5] [0, 1, 2, 3, 4, 5, 12, 13, 14, 15, 16, 17, 18, 19, 20, 21, 22, 23, 24, 25, 26, 27, 6, 7, 8, 9, 10, 11] rfl (Wr := wX5 q ad v0) rfl (by decide) (by decide) (by decide) (by decide) (fun _ => rfl) 22 rfl rfl rfl k_698 mX4_cheapest ⟨rfl, rfl⟩ ⟨Nat.le_of_ble_eq_true rfl, Nat.le_of_ble_eq_true rfl⟩ rfl rfl (Nat.le_of_ble_eq_true rfl) dX5_cheap_49 ⟨Nat.zero_le _, Nat.zero_le _⟩ (fun H4 locs4 hP hD hS4 => ?_)
      have hP4 : va_P D cls (wX5 q ad v0 ++ (wX3 q (ad 1) v1 ++ (wX1 q (ad 7) v7 ++ wX4 q (ad 8) y49.2 (ad 1 99) (ad 7 99)))) H4 := hP
      have hD4 : va_D (va_A (wX5 q ad v0 ++ (wX3 q (ad 1) v1 ++ (wX1 q (ad 7) v7 ++ wX4 q (ad 8) v8 (ad 1 99) (ad 7 99)))) s.heap.size) (wX5 q ad v0 ++ (wX3 q (ad 1) v1 ++ (wX1 q (ad 7) v7 ++ wX4 q (ad 8) y49.2 (ad 1 99) (ad 7 99)))) := hD
      clear hP hD hP3 hD3 hS3
      exact eWi (Wf := fun (uu : SV) => wX5 q ad v0 ++ (wX3 q (ad 1) v1 ++ (wX1 q (ad 7) v7 ++ wX4 q (ad 8) uu (ad 1 99) (ad 7 99)))) (u := y49.2) X hr hlocks hP4 hD4 hS4 hm dX5_cheap_52
    · replace hm := tp hm c16
      refine lv_iconst (v := (-1 : Int32)) hx hb dX5_cheap_19 (by decide) ?_
      exact eWi (Wf := fun (uu : SV) => wX5 q ad v0 ++ (wX3 q (ad 1) v1 ++ (wX1 q (ad 7) v7 ++ wX4 q (ad 8) uu (ad 1 99) (ad 7 99)))) (u := v8) X hr hlocks hP0 hD0 hS0 hm dX5_cheap_20
noncomputable def m_X5_next_K20 (x1 : Int32) (z20 : Int32 × Int32 × Int32 × SV) : Option (Int32 × SV) :=
  (if x1 = 0 then some (z20.2.1, z20.2.2.2) else some (z20.1, z20.2.2.2))
noncomputable def m_X5_next_K46 (z20 : Int32 × Int32 × Int32 × SV) (z46 : Int32 × Int32 × Int32 × SV) : Option ((Int32 × Int32 × Int32 × SV) ⊕ (Int32 × Int32 × Int32 × SV)) :=
  some (.inl (z46.1, z46.2.1, (z20.2.2.1 + (1 : Int32)), z46.2.2.2))
noncomputable def m_X5_next_L46 (v1 : SV) (z20 : Int32 × Int32 × Int32 × SV) (z46 : Int32 × Int32 × Int32 × SV) : Option ((Int32 × Int32 × Int32 × SV) ⊕ (Int32 × Int32 × Int32 × SV)) :=
  (if (v1 0 1) ≤ z46.2.2.1 then some (.inr (z46.1, z46.2.1, z46.2.2.1, z46.2.2.2)) else (m_X3_cover z46.2.2.2 z20.2.2.1 z46.2.2.1).bind (fun y66 => (m_X3_likeBonds y66).bind (fun y73 => (if y73 ≤ z46.1 then some (.inl (z46.1, z46.2.1, (z46.2.2.1 + (1 : Int32)), y66)) else some (.inl (y73, (((10 : Int32) * z20.2.2.1) + z46.2.2.1), (z46.2.2.1 + (1 : Int32)), y66))))))
noncomputable def m_X5_next_L20 (v1 : SV) (z20 : Int32 × Int32 × Int32 × SV) : Option ((Int32 × Int32 × Int32 × SV) ⊕ (Int32 × Int32 × Int32 × SV)) :=
  (if (v1 0 0) ≤ z20.2.2.1 then some (.inr (z20.1, z20.2.1, z20.2.2.1, z20.2.2.2)) else (m_X3_becomes z20.2.2.2 v1).bind (fun y40 => (lpC (m_X5_next_L46 v1 z20) (z20.1, z20.2.1, (0 : Int32), y40)).bind (m_X5_next_K46 z20)))
noncomputable def m_X5_next (v0 : SV) (v1 : SV) (v2 : SV) (x1 : Int32) : Option (Int32 × SV) :=
  (m_X5_within x1 (0 : Int32) (1 : Int32)).bind (fun y3 => (if y3 = 0 then some ((-1 : Int32), v2) else (lpC (m_X5_next_L20 v1) ((-4 : Int32), (-4 : Int32), (0 : Int32), v2)).bind (m_X5_next_K20 x1)))
set_option maxHeartbeats 4000000 in
set_option maxRecDepth 100000 in
theorem c_X5_next (l : Launch) (D : va_G) (q : Nat → ClassId) (sz : Nat) (ad : Nat → Nat → Nat) (v0 : SV) (v1 : SV) (v2 : SV) (x1 : Int32) (res : Int32 × SV) (hm : m_X5_next v0 v1 v2 x1 = some res) : Met l yX5_next (mw yX5_next cX5_next 7 (some .int)) ({ frames := 5, cells := 0, slots := 0, locals := 111 } : Room) (pcW D q (wX5 q ad v0 ++ (wX3 q (ad 1) v1 ++ wX3 q (ad 2) v2)) sz [.ref (ad 0 99), .int x1]) (va_Qi (fun r w => r = res.1 ∧ w = res.2) (bW D q (wX5 q ad v0 ++ (wX3 q (ad 1) v1 ++ wX3 q (ad 2) v2)) sz (fun (uu : SV) => wX5 q ad v0 ++ (wX3 q (ad 1) v1 ++ wX3 q (ad 2) uu))) (va_A (wX5 q ad v0 ++ (wX3 q (ad 1) v1 ++ wX3 q (ad 2) v2)) sz)) 0 0 (va_A (wX5 q ad v0 ++ (wX3 q (ad 1) v1 ++ wX3 q (ad 2) v2)) sz) := by
  refine Met.ofW (cc := cX5_next) (maxL := 7) (ret := (some .int)) (by decide) rfl ?_
  intro p e s m args below meth c s₁ B hml hv
  obtain ⟨rfl, hsz, hP0, hK, hD0⟩ := hv
  have hx := B.exec
  have hb := B.bytes
  have hr := B.returns
  have hW := mw_ws (atoms_spec (ws := mw yX5_next cX5_next 7 (some .int)) B.pre)
  have hown : s.vm.findClass RX5 = some m.cls := findClass_of_methodNamed B.named
  have hlocks := B.notSynchronized
  have X : Cx p s m [.ref (ad 0 99), .int x1].toArray c cX5_next 7 RX5 D q := ⟨hx, hb, hml, hown, hW, hK⟩
  subst hsz
  replace hD0 := hD0.self (sz := s.heap.size)
  have hS0 : va_S (va_A (wX5 q ad v0 ++ (wX3 q (ad 1) v1 ++ wX3 q (ad 2) v2)) s.heap.size) s.heap s.heap [] := va_S.rf
  have hl0 := lv_entry ([.ref (ad 0 99), .int x1]) (n := 7) (Nat.le_of_ble_eq_true rfl)
  rw [lg_entry_eq]
  generalize (lg_sl ([.ref (ad 0 99), .int x1]) ++ List.replicate (7 - (lg_sl ([.ref (ad 0 99), .int x1])).length) Slot.unset).toArray = ls0 at hl0 ⊢
  have hl0 : lv_has ls0 7 [(0, .ref (ad 0 99)), (1, .int x1)] := hl0
  unfold m_X5_next at hm
  refine lv_iload_n hx hb dX5_next_0 rfl (lv_at hl0 1 rfl) ?_
  refine lv_iconst (v := (0 : Int32)) hx hb dX5_next_1 (by decide) ?_
  refine lv_iconst (v := (1 : Int32)) hx hb dX5_next_2 (by decide) ?_
  obtain ⟨y3, hy3, hm⟩ := bn hm
  refine cSRi (As := [.int x1, .int (0 : Int32), .int (1 : Int32)]) (rest := []) X hP0 hl0.1 (c_X5_within l D q x1 (0 : Int32) (1 : Int32) y3 hy3) [] rfl k_346 mX5_within ⟨rfl, rfl⟩ ⟨Nat.le_of_ble_eq_true rfl, Nat.le_of_ble_eq_true rfl⟩ rfl rfl (Nat.le_of_ble_eq_true rfl) dX5_next_3 ⟨Nat.zero_le _, Nat.zero_le _⟩ ?_
  refine lv_if_ne (tgt := 11) hx hb dX5_next_6 (by decide) (fun c6 => ?_) (fun c6 => ?_)
  · replace hm := tn hm c6
    refine lv_bipush (v := (-4 : Int32)) hx hb dX5_next_11 (by decide) ?_
    refine lv_istore_n (lv' := [(2, .int (-4 : Int32)), (0, .ref (ad 0 99)), (1, .int x1)]) hx hb dX5_next_13 rfl hl0 (by decide) rfl (fun ls1 hl1 => ?_)
    clear hl0
    refine lv_bipush (v := (-4 : Int32)) hx hb dX5_next_14 (by decide) ?_
    refine lv_istore_n (lv' := [(3, .int (-4 : Int32)), (2, .int (-4 : Int32)), (0, .ref (ad 0 99)), (1, .int x1)]) hx hb dX5_next_16 rfl hl1 (by decide) rfl (fun ls2 hl2 => ?_)
    clear hl1
    refine lv_iconst (v := (0 : Int32)) hx hb dX5_next_17 (by decide) ?_
    refine lv_istore (lv' := [(4, .int (0 : Int32)), (3, .int (-4 : Int32)), (2, .int (-4 : Int32)), (0, .ref (ad 0 99)), (1, .int x1)]) hx hb dX5_next_18 hl2 (by decide) rfl (fun ls3 hl3 => ?_)
    clear hl2
    obtain ⟨r20, hr20, hm⟩ := bn hm
    obtain ⟨n20, hn20⟩ := lpC_ex hr20
    have hE20 : ∀ z20 : Int32 × Int32 × Int32 × SV, m_X5_next_K20 x1 z20 = some res → ∀ (H : Heap) (locs : List Loc), va_P D cls (wX5 q ad v0 ++ (wX3 q (ad 1) v1 ++ wX3 q (ad 2) z20.2.2.2)) H → va_D (va_A (wX5 q ad v0 ++ (wX3 q (ad 1) v1 ++ wX3 q (ad 2) v2)) s.heap.size) (wX5 q ad v0 ++ (wX3 q (ad 1) v1 ++ wX3 q (ad 2) z20.2.2.2)) → va_S (va_A (wX5 q ad v0 ++ (wX3 q (ad 1) v1 ++ wX3 q (ad 2) v2)) s.heap.size) s.heap H locs → ∀ ls : Array Slot, lv_has ls 7 [(1, .int x1), (2, .int z20.1), (3, .int z20.2.1)] → W p l e ((headSpec (mw yX5_next cX5_next 7 (some .int)) ({ frames := 5, cells := 0, slots := 0, locals := 111 } : Room)).room) s m [.ref (ad 0 99), .int x1].toArray below meth c H locs 0 0 (MQ below (va_Qi (fun r w => r = res.1 ∧ w = res.2) (bW D q (wX5 q ad v0 ++ (wX3 q (ad 1) v1 ++ wX3 q (ad 2) v2)) s.heap.size (fun (uu : SV) => wX5 q ad v0 ++ (wX3 q (ad 1) v1 ++ wX3 q (ad 2) uu))) (va_A (wX5 q ad v0 ++ (wX3 q (ad 1) v1 ++ wX3 q (ad 2) v2)) s.heap.size)) [.ref (ad 0 99), .int x1].toArray s 0 0 (va_A (wX5 q ad v0 ++ (wX3 q (ad 1) v1 ++ wX3 q (ad 2) v2)) s.heap.size)) (F0 m 108 ls []) := by
      intro z20 hm H7 locs7 hP7 hD7 hS7 ls6 hl6
      unfold m_X5_next_K20 at hm
      refine lv_iload_n hx hb dX5_next_108 rfl (lv_at hl6 0 rfl) ?_
      refine lv_if_ne (tgt := 116) hx hb dX5_next_109 (by decide) (fun c109 => ?_) (fun c109 => ?_)
      · replace hm := tn hm c109
        refine lv_iload_n hx hb dX5_next_116 rfl (lv_at hl6 1 rfl) ?_
        exact eWi (Wf := fun (uu : SV) => wX5 q ad v0 ++ (wX3 q (ad 1) v1 ++ wX3 q (ad 2) uu)) (u := z20.2.2.2) X hr hlocks hP7 hD7 hS7 hm dX5_next_117
      · replace hm := tp hm c109
        refine lv_iload_n hx hb dX5_next_112 rfl (lv_at hl6 2 rfl) ?_
        refine lv_goto (tgt := 117) hx hb dX5_next_113 (by decide) ?_
        exact eWi (Wf := fun (uu : SV) => wX5 q ad v0 ++ (wX3 q (ad 1) v1 ++ wX3 q (ad 2) uu)) (u := z20.2.2.2) X hr hlocks hP7 hD7 hS7 hm dX5_next_117
    have hL20 : ∀ (n : Nat) (z20 : Int32 × Int32 × Int32 × SV) (ρ20 : Int32 × Int32 × Int32 × SV), lpO (m_X5_next_L20 v1) n z20 = some ρ20 → (m_X5_next_K20 x1) ρ20 = some res → ∀ (H : Heap) (locs : List Loc), va_P D cls (wX5 q ad v0 ++ (wX3 q (ad 1) v1 ++ wX3 q (ad 2) z20.2.2.2)) H → va_D (va_A (wX5 q ad v0 ++ (wX3 q (ad 1) v1 ++ wX3 q (ad 2) v2)) s.heap.size) (wX5 q ad v0 ++ (wX3 q (ad 1) v1 ++ wX3 q (ad 2) z20.2.2.2)) → va_S (va_A (wX5 q ad v0 ++ (wX3 q (ad 1) v1 ++ wX3 q (ad 2) v2)) s.heap.size) s.heap H locs → ∀ ls : Array Slot, lv_has ls 7 [(0, .ref (ad 0 99)), (1, .int x1), (2, .int z20.1), (3, .int z20.2.1), (4, .int z20.2.2.1)] → W p l e ((headSpec (mw yX5_next cX5_next 7 (some .int)) ({ frames := 5, cells := 0, slots := 0, locals := 111 } : Room)).room) s m [.ref (ad 0 99), .int x1].toArray below meth c H locs 0 0 (MQ below (va_Qi (fun r w => r = res.1 ∧ w = res.2) (bW D q (wX5 q ad v0 ++ (wX3 q (ad 1) v1 ++ wX3 q (ad 2) v2)) s.heap.size (fun (uu : SV) => wX5 q ad v0 ++ (wX3 q (ad 1) v1 ++ wX3 q (ad 2) uu))) (va_A (wX5 q ad v0 ++ (wX3 q (ad 1) v1 ++ wX3 q (ad 2) v2)) s.heap.size)) [.ref (ad 0 99), .int x1].toArray s 0 0 (va_A (wX5 q ad v0 ++ (wX3 q (ad 1) v1 ++ wX3 q (ad 2) v2)) s.heap.size)) (F0 m 20 ls []) := by
      intro n
      induction n with
      | zero => intro _ _ h; cases h
      | succ n ih20 =>
        intro z20 ρ20 hz20 hK20 H5 locs5 hP5 hD5 hS5 ls4 hl4
        obtain ⟨t20, hm, hz20⟩ := bn hz20
        unfold m_X5_next_L20 at hm
        refine lv_iload hx hb dX5_next_20 (lv_at hl4 4 rfl) ?_
        refine lv_aload_n hx hb dX5_next_22 rfl (lv_at hl4 0 rfl) ?_
        refine va_get (D := D) (ci := 5) (v := .ref (ad 1 99)) (C := RX5) (T := TX5) (N := 11) hx hb hW iX5 hown hK hP5 0 rfl rfl 1 (by decide) (hW _ k_309) (fun _ h => h) rfl dX5_next_23 ?_
        refine va_get (D := D) (ci := 3) (v := .int (v1 0 0)) (C := RX3) (T := TX3) (N := 17) hx hb hW iX3 hown hK hP5 6 rfl rfl 0 (by decide) (hW _ k_85) (fun _ h => h) rfl dX5_next_26 ?_
        refine lv_icmp_ge (tgt := 108) hx hb dX5_next_29 (by decide) (fun c29 => ?_) (fun c29 => ?_)
        · replace hm := tp hm c29
          cases hm
          cases hz20
          exact hE20 (z20.1, z20.2.1, z20.2.2.1, z20.2.2.2) hK20 _ _ hP5 hD5 hS5 _ (lv_sub hl4 [1, 2, 3] rfl)
        · replace hm := tn hm c29
          refine lv_aload_n hx hb dX5_next_32 rfl (lv_at hl4 0 rfl) ?_
          refine va_get (D := D) (ci := 5) (v := .ref (ad 2 99)) (C := RX5) (T := TX5) (N := 11) hx hb hW iX5 hown hK hP5 0 rfl rfl 2 (by decide) (hW _ k_310) (fun _ h => h) rfl dX5_next_33 ?_
          refine lv_aload_n hx hb dX5_next_36 rfl (lv_at hl4 0 rfl) ?_
          refine va_get (D := D) (ci := 5) (v := .ref (ad 1 99)) (C := RX5) (T := TX5) (N := 11) hx hb hW iX5 hown hK hP5 0 rfl rfl 1 (by decide) (hW _ k_309) (fun _ h => h) rfl dX5_next_37 ?_
          obtain ⟨y40, hy40, hm⟩ := bn hm
          refine cVWv (As := [.ref (ad 1 99)]) (rest := []) (Wn := fun (uu : SV) => wX5 q ad v0 ++ (wX3 q (ad 1) v1 ++ wX3 q (ad 2) uu)) X hP5 hD5 hS5 (fun _ h => Or.inr h) hl4.1 (c_X3_becomes l D q H5.size (ad 2) z20.2.2.2 (ad 1) v1 y40 hy40) [18, 19, 20, 21, 22, 23, 24, 25, 26, 27, 28, 29, 6, 7, 8, 9, 10, 11, 12, 13, 14, 15, 16, 17] [0, 1, 2, 3, 4, 5] [0, 1, 2, 3, 4, 5, 18, 19, 20, 21, 22, 23, 24, 25, 26, 27, 28, 29, 6, 7, 8, 9, 10, 11, 12, 13, 14, 15, 16, 17] rfl (Wr := wX5 q ad v0) rfl (by decide) (by decide) (by decide) (by decide) (fun _ => rfl) 18 rfl rfl rfl k_504 mX3_becomes ⟨rfl, rfl⟩ ⟨Nat.le_of_ble_eq_true rfl, Nat.le_of_ble_eq_true rfl⟩ rfl rfl (Nat.le_of_ble_eq_true rfl) dX5_next_40 ⟨Nat.zero_le _, Nat.zero_le _⟩ (fun H8 locs8 hP hD hS8 => ?_)
          have hP8 : va_P D cls (wX5 q ad v0 ++ (wX3 q (ad 1) v1 ++ wX3 q (ad 2) y40)) H8 := hP
          have hD8 : va_D (va_A (wX5 q ad v0 ++ (wX3 q (ad 1) v1 ++ wX3 q (ad 2) v2)) s.heap.size) (wX5 q ad v0 ++ (wX3 q (ad 1) v1 ++ wX3 q (ad 2) y40)) := hD
          clear hP hD hP5 hD5 hS5
          refine lv_iconst (v := (0 : Int32)) hx hb dX5_next_43 (by decide) ?_
          refine lv_istore (lv' := [(5, .int (0 : Int32)), (0, .ref (ad 0 99)), (1, .int x1), (2, .int z20.1), (3, .int z20.2.1), (4, .int z20.2.2.1)]) hx hb dX5_next_44 hl4 (by decide) rfl (fun ls9 hl9 => ?_)
          clear hl4
          obtain ⟨r46, hr46, hm⟩ := bn hm
          obtain ⟨n46, hn46⟩ := lpC_ex hr46
          have hE46 : ∀ z46 : Int32 × Int32 × Int32 × SV, m_X5_next_K46 z20 z46 = some t20 → ∀ (H : Heap) (locs : List Loc), va_P D cls (wX5 q ad v0 ++ (wX3 q (ad 1) v1 ++ wX3 q (ad 2) z46.2.2.2)) H → va_D (va_A (wX5 q ad v0 ++ (wX3 q (ad 1) v1 ++ wX3 q (ad 2) v2)) s.heap.size) (wX5 q ad v0 ++ (wX3 q (ad 1) v1 ++ wX3 q (ad 2) z46.2.2.2)) → va_S (va_A (wX5 q ad v0 ++ (wX3 q (ad 1) v1 ++ wX3 q (ad 2) v2)) s.heap.size) s.heap H locs → ∀ ls : Array Slot, lv_has ls 7 [(0, .ref (ad 0 99)), (1, .int x1), (4, .int z20.2.2.1), (2, .int z46.1), (3, .int z46.2.1)] → W p l e ((headSpec (mw yX5_next cX5_next 7 (some .int)) ({ frames := 5, cells := 0, slots := 0, locals := 111 } : Room)).room) s m [.ref (ad 0 99), .int x1].toArray below meth c H locs 0 0 (MQ below (va_Qi (fun r w => r = res.1 ∧ w = res.2) (bW D q (wX5 q ad v0 ++ (wX3 q (ad 1) v1 ++ wX3 q (ad 2) v2)) s.heap.size (fun (uu : SV) => wX5 q ad v0 ++ (wX3 q (ad 1) v1 ++ wX3 q (ad 2) uu))) (va_A (wX5 q ad v0 ++ (wX3 q (ad 1) v1 ++ wX3 q (ad 2) v2)) s.heap.size)) [.ref (ad 0 99), .int x1].toArray s 0 0 (va_A (wX5 q ad v0 ++ (wX3 q (ad 1) v1 ++ wX3 q (ad 2) v2)) s.heap.size)) (F0 m 102 ls []) := by
            intro z46 hm H13 locs13 hP13 hD13 hS13 ls12 hl12
            unfold m_X5_next_K46 at hm
            refine lv_iinc (v := (z20.2.2.1 + (1 : Int32))) (lv' := [(4, .int (z20.2.2.1 + (1 : Int32))), (0, .ref (ad 0 99)), (1, .int x1), (2, .int z46.1), (3, .int z46.2.1)]) hx hb dX5_next_102 hl12 (k := 2) rfl rfl (by decide) rfl (fun ls14 hl14 => ?_)
            clear hl12
            refine lv_goto (tgt := 20) hx hb dX5_next_105 (by decide) ?_
            cases hm
            exact ih20 (z46.1, z46.2.1, (z20.2.2.1 + (1 : Int32)), z46.2.2.2) ρ20 hz20 hK20 _ _ hP13 hD13 hS13 _ (lv_sub hl14 [1, 2, 3, 4, 0] rfl)
          have hL46 : ∀ (n : Nat) (z46 : Int32 × Int32 × Int32 × SV) (ρ46 : Int32 × Int32 × Int32 × SV), lpO (m_X5_next_L46 v1 z20) n z46 = some ρ46 → (m_X5_next_K46 z20) ρ46 = some t20 → ∀ (H : Heap) (locs : List Loc), va_P D cls (wX5 q ad v0 ++ (wX3 q (ad 1) v1 ++ wX3 q (ad 2) z46.2.2.2)) H → va_D (va_A (wX5 q ad v0 ++ (wX3 q (ad 1) v1 ++ wX3 q (ad 2) v2)) s.heap.size) (wX5 q ad v0 ++ (wX3 q (ad 1) v1 ++ wX3 q (ad 2) z46.2.2.2)) → va_S (va_A (wX5 q ad v0 ++ (wX3 q (ad 1) v1 ++ wX3 q (ad 2) v2)) s.heap.size) s.heap H locs → ∀ ls : Array Slot, lv_has ls 7 [(0, .ref (ad 0 99)), (1, .int x1), (4, .int z20.2.2.1), (2, .int z46.1), (3, .int z46.2.1), (5, .int z46.2.2.1)] → W p l e ((headSpec (mw yX5_next cX5_next 7 (some .int)) ({ frames := 5, cells := 0, slots := 0, locals := 111 } : Room)).room) s m [.ref (ad 0 99), .int x1].toArray below meth c H locs 0 0 (MQ below (va_Qi (fun r w => r = res.1 ∧ w = res.2) (bW D q (wX5 q ad v0 ++ (wX3 q (ad 1) v1 ++ wX3 q (ad 2) v2)) s.heap.size (fun (uu : SV) => wX5 q ad v0 ++ (wX3 q (ad 1) v1 ++ wX3 q (ad 2) uu))) (va_A (wX5 q ad v0 ++ (wX3 q (ad 1) v1 ++ wX3 q (ad 2) v2)) s.heap.size)) [.ref (ad 0 99), .int x1].toArray s 0 0 (va_A (wX5 q ad v0 ++ (wX3 q (ad 1) v1 ++ wX3 q (ad 2) v2)) s.heap.size)) (F0 m 46 ls []) := by
            intro n
            induction n with
            | zero => intro _ _ h; cases h
            | succ n ih46 =>
              intro z46 ρ46 hz46 hK46 H11 locs11 hP11 hD11 hS11 ls10 hl10
              obtain ⟨t46, hm, hz46⟩ := bn hz46
              unfold m_X5_next_L46 at hm
              refine lv_iload hx hb dX5_next_46 (lv_at hl10 5 rfl) ?_
              refine lv_aload_n hx hb dX5_next_48 rfl (lv_at hl10 0 rfl) ?_
              refine va_get (D := D) (ci := 5) (v := .ref (ad 1 99)) (C := RX5) (T := TX5) (N := 11) hx hb hW iX5 hown hK hP11 0 rfl rfl 1 (by decide) (hW _ k_309) (fun _ h => h) rfl dX5_next_49 ?_
              refine va_get (D := D) (ci := 3) (v := .int (v1 0 1)) (C := RX3) (T := TX3) (N := 17) hx hb hW iX3 hown hK hP11 6 rfl rfl 1 (by decide) (hW _ k_89) (fun _ h => h) rfl dX5_next_52 ?_
              refine lv_icmp_ge (tgt := 102) hx hb dX5_next_55 (by decide) (fun c55 => ?_) (fun c55 => ?_)
              · replace hm := tp hm c55
                cases hm
                cases hz46
                exact hE46 (z46.1, z46.2.1, z46.2.2.1, z46.2.2.2) hK46 _ _ hP11 hD11 hS11 _ (lv_sub hl10 [0, 1, 2, 3, 4] rfl)
              · replace hm := tn hm c55
                refine lv_aload_n hx hb dX5_next_58 rfl (lv_at hl10 0 rfl) ?_
                refine va_get (D := D) (ci := 5) (v := .ref (ad 2 99)) (C := RX5) (T := TX5) (N := 11) hx hb hW iX5 hown hK hP11 0 rfl rfl 2 (by decide) (hW _ k_310) (fun _ h => h) rfl dX5_next_59 ?_
                refine lv_iload hx hb dX5_next_62 (lv_at hl10 2 rfl) ?_
                refine lv_iload hx hb dX5_next_64 (lv_at hl10 5 rfl) ?_
                obtain ⟨y66, hy66, hm⟩ := bn hm
                refine cVWv (As := [.int z20.2.2.1, .int z46.2.2.1]) (rest := []) (Wn := fun (uu : SV) => wX5 q ad v0 ++ (wX3 q (ad 1) v1 ++ wX3 q (ad 2) uu)) X hP11 hD11 hS11 (fun _ h => Or.inr h) hl10.1 (c_X3_cover l D q H11.size (ad 2) z46.2.2.2 z20.2.2.1 z46.2.2.1 y66 hy66) [18, 19, 20, 21, 22, 23, 24, 25, 26, 27, 28, 29] [0, 1, 2, 3, 4, 5, 6, 7, 8, 9, 10, 11, 12, 13, 14, 15, 16, 17] [0, 1, 2, 3, 4, 5, 6, 7, 8, 9, 10, 11, 12, 13, 14, 15, 16, 17, 18, 19, 20, 21, 22, 23, 24, 25, 26, 27, 28, 29] rfl (Wr := wX5 q ad v0 ++ wX3 q (ad 1) v1) rfl (by decide) (by decide) (by decide) (by decide) (fun _ => rfl) 18 rfl rfl rfl k_718 mX3_cover ⟨rfl, rfl⟩ ⟨Nat.le_of_ble_eq_true rfl, Nat.le_of_ble_eq_true rfl⟩ rfl rfl (Nat.le_of_ble_eq_true rfl) dX5_next_66 ⟨Nat.zero_le _, Nat.zero_le _⟩ (fun H15 locs15 hP hD hS15 => ?_)
                have hP15 : va_P D cls (wX5 q ad v0 ++ (wX3 q (ad 1) v1 ++ wX3 q (ad 2) y66)) H15 := hP
                have hD15 : va_D (va_A (wX5 q ad v0 ++ (wX3 q (ad 1) v1 ++ wX3 q (ad 2) v2)) s.heap.size) (wX5 q ad v0 ++ (wX3 q (ad 1) v1 ++ wX3 q (ad 2) y66)) := hD
                clear hP hD hP11 hD11 hS11
                refine lv_aload_n hx hb dX5_next_69 rfl (lv_at hl10 0 rfl) ?_
                refine va_get (D := D) (ci := 5) (v := .ref (ad 2 99)) (C := RX5) (T := TX5) (N := 11) hx hb hW iX5 hown hK hP15 0 rfl rfl 2 (by decide) (hW _ k_310) (fun _ h => h) rfl dX5_next_70 ?_
                obtain ⟨y73, hy73, hm⟩ := bn hm
                refine cVRi (As := []) (rest := []) X hP15 hl10.1 (c_X3_likeBonds l D q (ad 2) y66 y73 hy73) [18, 19, 20, 21, 22, 23, 24, 25, 26, 27, 28, 29] rfl 18 rfl rfl rfl k_719 mX3_likeBonds ⟨rfl, rfl⟩ ⟨Nat.le_of_ble_eq_true rfl, Nat.le_of_ble_eq_true rfl⟩ rfl rfl (Nat.le_of_ble_eq_true rfl) dX5_next_73 ⟨Nat.zero_le _, Nat.zero_le _⟩ ?_
                refine lv_istore (lv' := [(6, .int y73), (0, .ref (ad 0 99)), (1, .int x1), (4, .int z20.2.2.1), (2, .int z46.1), (3, .int z46.2.1), (5, .int z46.2.2.1)]) hx hb dX5_next_76 hl10 (by decide) rfl (fun ls16 hl16 => ?_)
                clear hl10
                refine lv_iload hx hb dX5_next_78 (lv_at hl16 0 rfl) ?_
                refine lv_iload_n hx hb dX5_next_80 rfl (lv_at hl16 4 rfl) ?_
                refine lv_icmp_le (tgt := 96) hx hb dX5_next_81 (by decide) (fun c81 => ?_) (fun c81 => ?_)
                · replace hm := tp hm c81
                  refine lv_iinc (v := (z46.2.2.1 + (1 : Int32))) (lv' := [(5, .int (z46.2.2.1 + (1 : Int32))), (6, .int y73), (0, .ref (ad 0 99)), (1, .int x1), (4, .int z20.2.2.1), (2, .int z46.1), (3, .int z46.2.1)]) hx hb dX5_next_96 hl16 (k := 6) rfl rfl (by decide) rfl (fun ls17 hl17 => ?_)
                  clear hl16
                  refine lv_goto (tgt := 46) hx hb dX5_next_99 (by decide) ?_
                  cases hm
                  exact ih46 (z46.1, z46.2.1, (z46.2.2.1 + (1 : Int32)), y66) ρ46 hz46 hK46 _ _ hP15 hD15 hS15 _ (lv_sub hl17 [2, 3, 4, 5, 6, 0] rfl)
                · replace hm := tn hm c81
                  refine lv_iload hx hb dX5_next_84 (lv_at hl16 0 rfl) ?_
                  refine lv_istore_n (lv' := [(2, .int y73), (6, .int y73), (0, .ref (ad 0 99)), (1, .int x1), (4, .int z20.2.2.1), (3, .int z46.2.1), (5, .int z46.2.2.1)]) hx hb dX5_next_86 rfl hl16 (by decide) rfl (fun ls18 hl18 => ?_)
                  clear hl16
                  refine lv_bipush (v := (10 : Int32)) hx hb dX5_next_87 (by decide) ?_
                  refine lv_iload hx hb dX5_next_89 (lv_at hl18 4 rfl) ?_
                  refine lv_imul hx hb dX5_next_91 ?_
                  refine lv_iload hx hb dX5_next_92 (lv_at hl18 6 rfl) ?_
                  refine lv_iadd hx hb dX5_next_94 ?_
                  refine lv_istore_n (lv' := [(3, .int (((10 : Int32) * z20.2.2.1) + z46.2.2.1)), (2, .int y73), (6, .int y73), (0, .ref (ad 0 99)), (1, .int x1), (4, .int z20.2.2.1), (5, .int z46.2.2.1)]) hx hb dX5_next_95 rfl hl18 (by decide) rfl (fun ls19 hl19 => ?_)
                  clear hl18
                  refine lv_iinc (v := (z46.2.2.1 + (1 : Int32))) (lv' := [(5, .int (z46.2.2.1 + (1 : Int32))), (3, .int (((10 : Int32) * z20.2.2.1) + z46.2.2.1)), (2, .int y73), (6, .int y73), (0, .ref (ad 0 99)), (1, .int x1), (4, .int z20.2.2.1)]) hx hb dX5_next_96 hl19 (k := 6) rfl rfl (by decide) rfl (fun ls20 hl20 => ?_)
                  clear hl19
                  refine lv_goto (tgt := 46) hx hb dX5_next_99 (by decide) ?_
                  cases hm
                  exact ih46 (y73, (((10 : Int32) * z20.2.2.1) + z46.2.2.1), (z46.2.2.1 + (1 : Int32)), y66) ρ46 hz46 hK46 _ _ hP15 hD15 hS15 _ (lv_sub hl20 [4, 5, 6, 2, 1, 0] rfl)
          exact hL46 n46 (z20.1, z20.2.1, (0 : Int32), y40) r46 hn46 hm _ _ hP8 hD8 hS8 _ (lv_sub hl9 [1, 2, 5, 3, 4, 0] rfl)
    exact hL20 n20 ((-4 : Int32), (-4 : Int32), (0 : Int32), v2) r20 hn20 hm _ _ hP0 hD0 hS0 _ (lv_sub hl3 [3, 4, 2, 1, 0] rfl)
  · replace hm := tp hm c6
    refine lv_iconst (v := (-1 : Int32)) hx hb dX5_next_9 (by decide) ?_
    exact eWi (Wf := fun (uu : SV) => wX5 q ad v0 ++ (wX3 q (ad 1) v1 ++ wX3 q (ad 2) uu)) (u := v2) X hr hlocks hP0 hD0 hS0 hm dX5_next_10
noncomputable def m_X5_value (v0 : SV) (v1 : SV) (x1 : Int32) : Option (Int32) :=
  (m_X3_everybody v1).bind (fun y6 => (m_X5_within x1 (0 : Int32) y6).bind (fun y9 => (if y9 = 0 then some (-1 : Int32) else (m_X3_valueOf v1 x1).bind (fun y20 => some y20))))
set_option maxHeartbeats 4000000 in
set_option maxRecDepth 100000 in
theorem c_X5_value (l : Launch) (D : va_G) (q : Nat → ClassId) (ad : Nat → Nat → Nat) (v0 : SV) (v1 : SV) (x1 : Int32) (res : Int32) (hm : m_X5_value v0 v1 x1 = some res) : Met l yX5_value (mw yX5_value cX5_value 2 (some .int)) ({ frames := 5, cells := 0, slots := 0, locals := 113 } : Room) (pcR D q (wX5 q ad v0 ++ wX3 q (ad 1) v1) [.ref (ad 0 99), .int x1]) (vp_Si (fun x => x = res)) 0 0 (fun _ => False) := by
  refine Met.ofW (cc := cX5_value) (maxL := 2) (ret := (some .int)) (by decide) rfl ?_
  intro p e s m args below meth c s₁ B hml hv
  obtain ⟨rfl, hP0, hK⟩ := hv
  have hx := B.exec
  have hb := B.bytes
  have hr := B.returns
  have hW := mw_ws (atoms_spec (ws := mw yX5_value cX5_value 2 (some .int)) B.pre)
  have hown : s.vm.findClass RX5 = some m.cls := findClass_of_methodNamed B.named
  have hlocks := B.notSynchronized
  have X : Cx p s m [.ref (ad 0 99), .int x1].toArray c cX5_value 2 RX5 D q := ⟨hx, hb, hml, hown, hW, hK⟩
  have hl0 := lv_entry ([.ref (ad 0 99), .int x1]) (n := 2) (Nat.le_of_ble_eq_true rfl)
  rw [lg_entry_eq]
  generalize (lg_sl ([.ref (ad 0 99), .int x1]) ++ List.replicate (2 - (lg_sl ([.ref (ad 0 99), .int x1])).length) Slot.unset).toArray = ls0 at hl0 ⊢
  have hl0 : lv_has ls0 2 [(0, .ref (ad 0 99)), (1, .int x1)] := hl0
  unfold m_X5_value at hm
  refine lv_iload_n hx hb dX5_value_0 rfl (lv_at hl0 1 rfl) ?_
  refine lv_iconst (v := (0 : Int32)) hx hb dX5_value_1 (by decide) ?_
  refine lv_aload_n hx hb dX5_value_2 rfl (lv_at hl0 0 rfl) ?_
  refine va_get (D := D) (ci := 5) (v := .ref (ad 1 99)) (C := RX5) (T := TX5) (N := 11) hx hb hW iX5 hown hK hP0 0 rfl rfl 1 (by decide) (hW _ k_309) (fun _ h => h) rfl dX5_value_3 ?_
  obtain ⟨y6, hy6, hm⟩ := bn hm
  refine cVRi (As := []) (rest := [.int (0 : Int32), .int x1]) X hP0 hl0.1 (c_X3_everybody l D q (ad 1) v1 y6 hy6) [6, 7, 8, 9, 10, 11, 12, 13, 14, 15, 16, 17] rfl 6 rfl rfl rfl k_728 mX3_everybody ⟨rfl, rfl⟩ ⟨Nat.le_of_ble_eq_true rfl, Nat.le_of_ble_eq_true rfl⟩ rfl rfl (Nat.le_of_ble_eq_true rfl) dX5_value_6 ⟨Nat.zero_le _, Nat.zero_le _⟩ ?_
  obtain ⟨y9, hy9, hm⟩ := bn hm
  refine cSRi (As := [.int x1, .int (0 : Int32), .int y6]) (rest := []) X hP0 hl0.1 (c_X5_within l D q x1 (0 : Int32) y6 y9 hy9) [] rfl k_346 mX5_within ⟨rfl, rfl⟩ ⟨Nat.le_of_ble_eq_true rfl, Nat.le_of_ble_eq_true rfl⟩ rfl rfl (Nat.le_of_ble_eq_true rfl) dX5_value_9 ⟨Nat.zero_le _, Nat.zero_le _⟩ ?_
  refine lv_if_eq (tgt := 26) hx hb dX5_value_12 (by decide) (fun c12 => ?_) (fun c12 => ?_)
  · replace hm := tp hm c12
    refine lv_iconst (v := (-1 : Int32)) hx hb dX5_value_26 (by decide) ?_
    exact eRi  X hr hlocks hm dX5_value_27
  · replace hm := tn hm c12
    refine lv_aload_n hx hb dX5_value_15 rfl (lv_at hl0 0 rfl) ?_
    refine va_get (D := D) (ci := 5) (v := .ref (ad 1 99)) (C := RX5) (T := TX5) (N := 11) hx hb hW iX5 hown hK hP0 0 rfl rfl 1 (by decide) (hW _ k_309) (fun _ h => h) rfl dX5_value_16 ?_
    refine lv_iload_n hx hb dX5_value_19 rfl (lv_at hl0 1 rfl) ?_
    obtain ⟨y20, hy20, hm⟩ := bn hm
    refine cVRi (As := [.int x1]) (rest := []) X hP0 hl0.1 (c_X3_valueOf l D q (ad 1) v1 x1 y20 hy20) [6, 7, 8, 9, 10, 11, 12, 13, 14, 15, 16, 17] rfl 6 rfl rfl rfl k_729 mX3_valueOf ⟨rfl, rfl⟩ ⟨Nat.le_of_ble_eq_true rfl, Nat.le_of_ble_eq_true rfl⟩ rfl rfl (Nat.le_of_ble_eq_true rfl) dX5_value_20 ⟨Nat.zero_le _, Nat.zero_le _⟩ ?_
    refine lv_goto (tgt := 27) hx hb dX5_value_23 (by decide) ?_
    exact eRi  X hr hlocks hm dX5_value_27
noncomputable def m_X5_fraction_K9 (x1 : Int64) (x2 : Int64) (x3 : Int32) (z9 : Int64 × Int64 × Int32) : Option (Int64) :=
  (if 0 < (lg_cmp z9.1 (0 : Int64)) then (if x3 = 0 then ck (dvL z9.1) (some (x1 / z9.1)) else ck (dvL z9.1) (some (x2 / z9.1))) else some (0 : Int64))
noncomputable def m_X5_fraction_L9 (z9 : Int64 × Int64 × Int32) : Option ((Int64 × Int64 × Int32) ⊕ (Int64 × Int64 × Int32)) :=
  (if (200 : Int32) ≤ z9.2.2 then some (.inr (z9.1, z9.2.1, z9.2.2)) else (if (lg_cmp z9.2.1 (0 : Int64)) = 0 then some (.inr (z9.1, z9.2.1, z9.2.2)) else ck (dvL z9.2.1) (some (.inl (z9.2.1, (z9.1 - z9.1 / z9.2.1 * z9.2.1), (z9.2.2 + (1 : Int32)))))))
noncomputable def m_X5_fraction (x1 : Int64) (x2 : Int64) (x3 : Int32) : Option (Int64) :=
  (lpC (m_X5_fraction_L9) (x1, x2, (0 : Int32))).bind (m_X5_fraction_K9 x1 x2 x3)
set_option maxHeartbeats 4000000 in
set_option maxRecDepth 100000 in
theorem c_X5_fraction (l : Launch) (D : va_G) (q : Nat → ClassId) (x1 : Int64) (x2 : Int64) (x3 : Int32) (res : Int64) (hm : m_X5_fraction x1 x2 x3 = some res) : Met l yX5_fraction (mw yX5_fraction cX5_fraction 12 (some .long)) ({ frames := 0, cells := 0, slots := 0, locals := 0 } : Room) (pcR D q ([]) [.long x1, .long x2, .int x3]) (vp_Sl (fun x => x = res)) 0 0 (fun _ => False) := by
  refine Met.ofW (cc := cX5_fraction) (maxL := 12) (ret := (some .long)) (by decide) rfl ?_
  intro p e s m args below meth c s₁ B hml hv
  obtain ⟨rfl, hP0, hK⟩ := hv
  have hx := B.exec
  have hb := B.bytes
  have hr := B.returns
  have hW := mw_ws (atoms_spec (ws := mw yX5_fraction cX5_fraction 12 (some .long)) B.pre)
  have hown : s.vm.findClass RX5 = some m.cls := findClass_of_methodNamed B.named
  have hlocks := B.notSynchronized
  have X : Cx p s m [.long x1, .long x2, .int x3].toArray c cX5_fraction 12 RX5 D q := ⟨hx, hb, hml, hown, hW, hK⟩
  have hl0 := lv_entry ([.long x1, .long x2, .int x3]) (n := 12) (Nat.le_of_ble_eq_true rfl)
  rw [lg_entry_eq]
  generalize (lg_sl ([.long x1, .long x2, .int x3]) ++ List.replicate (12 - (lg_sl ([.long x1, .long x2, .int x3])).length) Slot.unset).toArray = ls0 at hl0 ⊢
  have hl0 : lv_has ls0 12 [(0, .long x1), (2, .long x2), (4, .int x3)] := hl0
  unfold m_X5_fraction at hm
  refine lv_lload_n hx hb dX5_fraction_0 rfl (lv_at hl0 0 rfl) ?_
  refine lv_lstore (lv' := [(5, .long x1), (0, .long x1), (2, .long x2), (4, .int x3)]) hx hb dX5_fraction_1 hl0 (by decide) rfl (fun ls1 hl1 => ?_)
  clear hl0
  refine lv_lload_n hx hb dX5_fraction_3 rfl (lv_at hl1 2 rfl) ?_
  refine lv_lstore (lv' := [(7, .long x2), (5, .long x1), (0, .long x1), (2, .long x2), (4, .int x3)]) hx hb dX5_fraction_4 hl1 (by decide) rfl (fun ls2 hl2 => ?_)
  clear hl1
  refine lv_iconst (v := (0 : Int32)) hx hb dX5_fraction_6 (by decide) ?_
  refine lv_istore (lv' := [(9, .int (0 : Int32)), (7, .long x2), (5, .long x1), (0, .long x1), (2, .long x2), (4, .int x3)]) hx hb dX5_fraction_7 hl2 (by decide) rfl (fun ls3 hl3 => ?_)
  clear hl2
  obtain ⟨r9, hr9, hm⟩ := bn hm
  obtain ⟨n9, hn9⟩ := lpC_ex hr9
  have hE9 : ∀ z9 : Int64 × Int64 × Int32, m_X5_fraction_K9 x1 x2 x3 z9 = some res → ∀ ls : Array Slot, lv_has ls 12 [(0, .long x1), (2, .long x2), (4, .int x3), (5, .long z9.1)] → W p l e ((headSpec (mw yX5_fraction cX5_fraction 12 (some .long)) ({ frames := 0, cells := 0, slots := 0, locals := 0 } : Room)).room) s m [.long x1, .long x2, .int x3].toArray below meth c s.heap [] 0 0 (MQ below (vp_Sl (fun x => x = res)) [.long x1, .long x2, .int x3].toArray s 0 0 (fun _ => False)) (F0 m 45 ls []) := by
    intro z9 hm ls5 hl5
    unfold m_X5_fraction_K9 at hm
    refine lv_lload hx hb dX5_fraction_45 (lv_at hl5 3 rfl) ?_
    refine lv_lconst (v := (0 : Int64)) hx hb dX5_fraction_47 (by decide) ?_
    refine W.lcmp hx hb dX5_fraction_48 ?_
    refine lv_if_gt (tgt := 54) hx hb dX5_fraction_49 (by decide) (fun c49 => ?_) (fun c49 => ?_)
    · replace hm := tp hm c49
      refine lv_iload hx hb dX5_fraction_54 (lv_at hl5 2 rfl) ?_
      refine lv_if_ne (tgt := 63) hx hb dX5_fraction_56 (by decide) (fun c56 => ?_) (fun c56 => ?_)
      · replace hm := tn hm c56
        refine lv_lload_n hx hb dX5_fraction_63 rfl (lv_at hl5 1 rfl) ?_
        refine lv_lload hx hb dX5_fraction_64 (lv_at hl5 3 rfl) ?_
        obtain ⟨h7, hm⟩ := ckd hm
        refine lv_ldiv hx hb dX5_fraction_66 (dvl_ne h7) ?_
        exact eRl  X hr hlocks hm dX5_fraction_67
      · replace hm := tp hm c56
        refine lv_lload_n hx hb dX5_fraction_59 rfl (lv_at hl5 0 rfl) ?_
        refine lv_goto (tgt := 64) hx hb dX5_fraction_60 (by decide) ?_
        refine lv_lload hx hb dX5_fraction_64 (lv_at hl5 3 rfl) ?_
        obtain ⟨h6, hm⟩ := ckd hm
        refine lv_ldiv hx hb dX5_fraction_66 (dvl_ne h6) ?_
        exact eRl  X hr hlocks hm dX5_fraction_67
    · replace hm := tn hm c49
      refine lv_lconst (v := (0 : Int64)) hx hb dX5_fraction_52 (by decide) ?_
      exact eRl  X hr hlocks hm dX5_fraction_53
  have hL9 : ∀ (n : Nat) (z9 : Int64 × Int64 × Int32) (ρ9 : Int64 × Int64 × Int32), lpO (m_X5_fraction_L9) n z9 = some ρ9 → (m_X5_fraction_K9 x1 x2 x3) ρ9 = some res → ∀ ls : Array Slot, lv_has ls 12 [(0, .long x1), (2, .long x2), (4, .int x3), (5, .long z9.1), (7, .long z9.2.1), (9, .int z9.2.2)] → W p l e ((headSpec (mw yX5_fraction cX5_fraction 12 (some .long)) ({ frames := 0, cells := 0, slots := 0, locals := 0 } : Room)).room) s m [.long x1, .long x2, .int x3].toArray below meth c s.heap [] 0 0 (MQ below (vp_Sl (fun x => x = res)) [.long x1, .long x2, .int x3].toArray s 0 0 (fun _ => False)) (F0 m 9 ls []) := by
    intro n
    induction n with
    | zero => intro _ _ h; cases h
    | succ n ih9 =>
      intro z9 ρ9 hz9 hK9 ls4 hl4
      obtain ⟨t9, hm, hz9⟩ := bn hz9
      unfold m_X5_fraction_L9 at hm
      refine lv_iload hx hb dX5_fraction_9 (lv_at hl4 5 rfl) ?_
      refine lv_sipush (v := (200 : Int32)) hx hb dX5_fraction_11 (by decide) ?_
      refine lv_icmp_ge (tgt := 45) hx hb dX5_fraction_14 (by decide) (fun c14 => ?_) (fun c14 => ?_)
      · replace hm := tp hm c14
        cases hm
        cases hz9
        exact hE9 (z9.1, z9.2.1, z9.2.2) hK9 _ (lv_sub hl4 [0, 1, 2, 3] rfl)
      · replace hm := tn hm c14
        refine lv_lload hx hb dX5_fraction_17 (lv_at hl4 4 rfl) ?_
        refine lv_lconst (v := (0 : Int64)) hx hb dX5_fraction_19 (by decide) ?_
        refine W.lcmp hx hb dX5_fraction_20 ?_
        refine lv_if_eq (tgt := 45) hx hb dX5_fraction_21 (by decide) (fun c21 => ?_) (fun c21 => ?_)
        · replace hm := tp hm c21
          cases hm
          cases hz9
          exact hE9 (z9.1, z9.2.1, z9.2.2) hK9 _ (lv_sub hl4 [0, 1, 2, 3] rfl)
        · replace hm := tn hm c21
          refine lv_lload hx hb dX5_fraction_24 (lv_at hl4 3 rfl) ?_
          refine lv_lload hx hb dX5_fraction_26 (lv_at hl4 4 rfl) ?_
          obtain ⟨h8, hm⟩ := ckd hm
          refine lv_lrem hx hb dX5_fraction_28 (dvl_ne h8) ?_
          refine lv_lstore (lv' := [(10, .long (z9.1 - z9.1 / z9.2.1 * z9.2.1)), (0, .long x1), (2, .long x2), (4, .int x3), (5, .long z9.1), (7, .long z9.2.1), (9, .int z9.2.2)]) hx hb dX5_fraction_29 hl4 (by decide) rfl (fun ls9 hl9 => ?_)
          clear hl4
          refine lv_lload hx hb dX5_fraction_31 (lv_at hl9 5 rfl) ?_
          refine lv_lstore (lv' := [(5, .long z9.2.1), (10, .long (z9.1 - z9.1 / z9.2.1 * z9.2.1)), (0, .long x1), (2, .long x2), (4, .int x3), (7, .long z9.2.1), (9, .int z9.2.2)]) hx hb dX5_fraction_33 hl9 (by decide) rfl (fun ls10 hl10 => ?_)
          clear hl9
          refine lv_lload hx hb dX5_fraction_35 (lv_at hl10 1 rfl) ?_
          refine lv_lstore (lv' := [(7, .long (z9.1 - z9.1 / z9.2.1 * z9.2.1)), (5, .long z9.2.1), (10, .long (z9.1 - z9.1 / z9.2.1 * z9.2.1)), (0, .long x1), (2, .long x2), (4, .int x3), (9, .int z9.2.2)]) hx hb dX5_fraction_37 hl10 (by decide) rfl (fun ls11 hl11 => ?_)
          clear hl10
          refine lv_iinc (v := (z9.2.2 + (1 : Int32))) (lv' := [(9, .int (z9.2.2 + (1 : Int32))), (7, .long (z9.1 - z9.1 / z9.2.1 * z9.2.1)), (5, .long z9.2.1), (10, .long (z9.1 - z9.1 / z9.2.1 * z9.2.1)), (0, .long x1), (2, .long x2), (4, .int x3)]) hx hb dX5_fraction_39 hl11 (k := 6) rfl rfl (by decide) rfl (fun ls12 hl12 => ?_)
          clear hl11
          refine lv_goto (tgt := 9) hx hb dX5_fraction_42 (by decide) ?_
          cases hm
          exact ih9 (z9.2.1, (z9.1 - z9.1 / z9.2.1 * z9.2.1), (z9.2.2 + (1 : Int32))) ρ9 hz9 hK9 _ (lv_sub hl12 [4, 5, 6, 2, 1, 0] rfl)
  exact hL9 n9 (x1, x2, (0 : Int32)) r9 hn9 hm _ (lv_sub hl3 [3, 4, 5, 2, 1, 0] rfl)
noncomputable def m_X5_share (v0 : SV) (v1 : SV) (x1 : Int32) (x2 : Int32) : Option (Int64) :=
  (m_X3_hasSitter v1 x1).bind (fun y5 => (if y5 = 0 then some (-1 : Int64) else (m_X5_within x2 (0 : Int32) (1 : Int32)).bind (fun y14 => (if y14 = 0 then some (-1 : Int64) else (m_X3_valueOf v1 ((1 : Int32) <<< (x1 &&& 31))).bind (fun y31 => (m_X3_everybody v1).bind (fun y43 => (m_X3_valueOf v1 y43).bind (fun y46 => (m_X3_everybody v1).bind (fun y57 => (m_X3_valueOf v1 (y57 &&& (((1 : Int32) <<< (x1 &&& 31)) ^^^ (-1 : Int32)))).bind (fun y66 => (m_X5_fraction ((y31 + (y46 - y66)).toInt64) (2 : Int64) x2).bind (fun y81 => some y81))))))))))
set_option maxHeartbeats 4000000 in
set_option maxRecDepth 100000 in
theorem c_X5_share (l : Launch) (D : va_G) (q : Nat → ClassId) (ad : Nat → Nat → Nat) (v0 : SV) (v1 : SV) (x1 : Int32) (x2 : Int32) (res : Int64) (hm : m_X5_share v0 v1 x1 x2 = some res) : Met l yX5_share (mw yX5_share cX5_share 5 (some .long)) ({ frames := 5, cells := 0, slots := 0, locals := 113 } : Room) (pcR D q (wX5 q ad v0 ++ wX3 q (ad 1) v1) [.ref (ad 0 99), .int x1, .int x2]) (vp_Sl (fun x => x = res)) 0 0 (fun _ => False) := by
  refine Met.ofW (cc := cX5_share) (maxL := 5) (ret := (some .long)) (by decide) rfl ?_
  intro p e s m args below meth c s₁ B hml hv
  obtain ⟨rfl, hP0, hK⟩ := hv
  have hx := B.exec
  have hb := B.bytes
  have hr := B.returns
  have hW := mw_ws (atoms_spec (ws := mw yX5_share cX5_share 5 (some .long)) B.pre)
  have hown : s.vm.findClass RX5 = some m.cls := findClass_of_methodNamed B.named
  have hlocks := B.notSynchronized
  have X : Cx p s m [.ref (ad 0 99), .int x1, .int x2].toArray c cX5_share 5 RX5 D q := ⟨hx, hb, hml, hown, hW, hK⟩
  have hl0 := lv_entry ([.ref (ad 0 99), .int x1, .int x2]) (n := 5) (Nat.le_of_ble_eq_true rfl)
  rw [lg_entry_eq]
  generalize (lg_sl ([.ref (ad 0 99), .int x1, .int x2]) ++ List.replicate (5 - (lg_sl ([.ref (ad 0 99), .int x1, .int x2])).length) Slot.unset).toArray = ls0 at hl0 ⊢
  have hl0 : lv_has ls0 5 [(0, .ref (ad 0 99)), (1, .int x1), (2, .int x2)] := hl0
  unfold m_X5_share at hm
  refine lv_aload_n hx hb dX5_share_0 rfl (lv_at hl0 0 rfl) ?_
  refine va_get (D := D) (ci := 5) (v := .ref (ad 1 99)) (C := RX5) (T := TX5) (N := 11) hx hb hW iX5 hown hK hP0 0 rfl rfl 1 (by decide) (hW _ k_309) (fun _ h => h) rfl dX5_share_1 ?_
  refine lv_iload_n hx hb dX5_share_4 rfl (lv_at hl0 1 rfl) ?_
  obtain ⟨y5, hy5, hm⟩ := bn hm
  refine cVRi (As := [.int x1]) (rest := []) X hP0 hl0.1 (c_X3_hasSitter l D q (ad 1) v1 x1 y5 hy5) [6, 7, 8, 9, 10, 11, 12, 13, 14, 15, 16, 17] rfl 6 rfl rfl rfl k_548 mX3_hasSitter ⟨rfl, rfl⟩ ⟨Nat.le_of_ble_eq_true rfl, Nat.le_of_ble_eq_true rfl⟩ rfl rfl (Nat.le_of_ble_eq_true rfl) dX5_share_5 ⟨Nat.zero_le _, Nat.zero_le _⟩ ?_
  refine lv_if_eq (tgt := 20) hx hb dX5_share_8 (by decide) (fun c8 => ?_) (fun c8 => ?_)
  · replace hm := tp hm c8
    refine lv_ldc2 (v := (-1 : Int64)) hx hb hown (hW _ k_740) dX5_share_20 ?_
    exact eRl  X hr hlocks hm dX5_share_23
  · replace hm := tn hm c8
    refine lv_iload_n hx hb dX5_share_11 rfl (lv_at hl0 2 rfl) ?_
    refine lv_iconst (v := (0 : Int32)) hx hb dX5_share_12 (by decide) ?_
    refine lv_iconst (v := (1 : Int32)) hx hb dX5_share_13 (by decide) ?_
    obtain ⟨y14, hy14, hm⟩ := bn hm
    refine cSRi (As := [.int x2, .int (0 : Int32), .int (1 : Int32)]) (rest := []) X hP0 hl0.1 (c_X5_within l D q x2 (0 : Int32) (1 : Int32) y14 hy14) [] rfl k_346 mX5_within ⟨rfl, rfl⟩ ⟨Nat.le_of_ble_eq_true rfl, Nat.le_of_ble_eq_true rfl⟩ rfl rfl (Nat.le_of_ble_eq_true rfl) dX5_share_14 ⟨Nat.zero_le _, Nat.zero_le _⟩ ?_
    refine lv_if_ne (tgt := 24) hx hb dX5_share_17 (by decide) (fun c17 => ?_) (fun c17 => ?_)
    · replace hm := tn hm c17
      refine lv_aload_n hx hb dX5_share_24 rfl (lv_at hl0 0 rfl) ?_
      refine va_get (D := D) (ci := 5) (v := .ref (ad 1 99)) (C := RX5) (T := TX5) (N := 11) hx hb hW iX5 hown hK hP0 0 rfl rfl 1 (by decide) (hW _ k_309) (fun _ h => h) rfl dX5_share_25 ?_
      refine lv_iconst (v := (1 : Int32)) hx hb dX5_share_28 (by decide) ?_
      refine lv_iload_n hx hb dX5_share_29 rfl (lv_at hl0 1 rfl) ?_
      refine lv_ishl hx hb dX5_share_30 ?_
      obtain ⟨y31, hy31, hm⟩ := bn hm
      refine cVRi (As := [.int ((1 : Int32) <<< (x1 &&& 31))]) (rest := []) X hP0 hl0.1 (c_X3_valueOf l D q (ad 1) v1 ((1 : Int32) <<< (x1 &&& 31)) y31 hy31) [6, 7, 8, 9, 10, 11, 12, 13, 14, 15, 16, 17] rfl 6 rfl rfl rfl k_729 mX3_valueOf ⟨rfl, rfl⟩ ⟨Nat.le_of_ble_eq_true rfl, Nat.le_of_ble_eq_true rfl⟩ rfl rfl (Nat.le_of_ble_eq_true rfl) dX5_share_31 ⟨Nat.zero_le _, Nat.zero_le _⟩ ?_
      refine lv_istore_n (lv' := [(3, .int y31), (0, .ref (ad 0 99)), (1, .int x1), (2, .int x2)]) hx hb dX5_share_34 rfl hl0 (by decide) rfl (fun ls1 hl1 => ?_)
      clear hl0
      refine lv_aload_n hx hb dX5_share_35 rfl (lv_at hl1 1 rfl) ?_
      refine va_get (D := D) (ci := 5) (v := .ref (ad 1 99)) (C := RX5) (T := TX5) (N := 11) hx hb hW iX5 hown hK hP0 0 rfl rfl 1 (by decide) (hW _ k_309) (fun _ h => h) rfl dX5_share_36 ?_
      refine lv_aload_n hx hb dX5_share_39 rfl (lv_at hl1 1 rfl) ?_
      refine va_get (D := D) (ci := 5) (v := .ref (ad 1 99)) (C := RX5) (T := TX5) (N := 11) hx hb hW iX5 hown hK hP0 0 rfl rfl 1 (by decide) (hW _ k_309) (fun _ h => h) rfl dX5_share_40 ?_
      obtain ⟨y43, hy43, hm⟩ := bn hm
      refine cVRi (As := []) (rest := [.ref (ad 1 99)]) X hP0 hl1.1 (c_X3_everybody l D q (ad 1) v1 y43 hy43) [6, 7, 8, 9, 10, 11, 12, 13, 14, 15, 16, 17] rfl 6 rfl rfl rfl k_728 mX3_everybody ⟨rfl, rfl⟩ ⟨Nat.le_of_ble_eq_true rfl, Nat.le_of_ble_eq_true rfl⟩ rfl rfl (Nat.le_of_ble_eq_true rfl) dX5_share_43 ⟨Nat.zero_le _, Nat.zero_le _⟩ ?_
      obtain ⟨y46, hy46, hm⟩ := bn hm
      refine cVRi (As := [.int y43]) (rest := []) X hP0 hl1.1 (c_X3_valueOf l D q (ad 1) v1 y43 y46 hy46) [6, 7, 8, 9, 10, 11, 12, 13, 14, 15, 16, 17] rfl 6 rfl rfl rfl k_729 mX3_valueOf ⟨rfl, rfl⟩ ⟨Nat.le_of_ble_eq_true rfl, Nat.le_of_ble_eq_true rfl⟩ rfl rfl (Nat.le_of_ble_eq_true rfl) dX5_share_46 ⟨Nat.zero_le _, Nat.zero_le _⟩ ?_
      refine lv_aload_n hx hb dX5_share_49 rfl (lv_at hl1 1 rfl) ?_
      refine va_get (D := D) (ci := 5) (v := .ref (ad 1 99)) (C := RX5) (T := TX5) (N := 11) hx hb hW iX5 hown hK hP0 0 rfl rfl 1 (by decide) (hW _ k_309) (fun _ h => h) rfl dX5_share_50 ?_
      refine lv_aload_n hx hb dX5_share_53 rfl (lv_at hl1 1 rfl) ?_
      refine va_get (D := D) (ci := 5) (v := .ref (ad 1 99)) (C := RX5) (T := TX5) (N := 11) hx hb hW iX5 hown hK hP0 0 rfl rfl 1 (by decide) (hW _ k_309) (fun _ h => h) rfl dX5_share_54 ?_
      obtain ⟨y57, hy57, hm⟩ := bn hm
      refine cVRi (As := []) (rest := [.ref (ad 1 99), .int y46]) X hP0 hl1.1 (c_X3_everybody l D q (ad 1) v1 y57 hy57) [6, 7, 8, 9, 10, 11, 12, 13, 14, 15, 16, 17] rfl 6 rfl rfl rfl k_728 mX3_everybody ⟨rfl, rfl⟩ ⟨Nat.le_of_ble_eq_true rfl, Nat.le_of_ble_eq_true rfl⟩ rfl rfl (Nat.le_of_ble_eq_true rfl) dX5_share_57 ⟨Nat.zero_le _, Nat.zero_le _⟩ ?_
      refine lv_iconst (v := (1 : Int32)) hx hb dX5_share_60 (by decide) ?_
      refine lv_iload_n hx hb dX5_share_61 rfl (lv_at hl1 2 rfl) ?_
      refine lv_ishl hx hb dX5_share_62 ?_
      refine lv_iconst (v := (-1 : Int32)) hx hb dX5_share_63 (by decide) ?_
      refine lv_ixor hx hb dX5_share_64 ?_
      refine lv_iand hx hb dX5_share_65 ?_
      obtain ⟨y66, hy66, hm⟩ := bn hm
      refine cVRi (As := [.int (y57 &&& (((1 : Int32) <<< (x1 &&& 31)) ^^^ (-1 : Int32)))]) (rest := [.int y46]) X hP0 hl1.1 (c_X3_valueOf l D q (ad 1) v1 (y57 &&& (((1 : Int32) <<< (x1 &&& 31)) ^^^ (-1 : Int32))) y66 hy66) [6, 7, 8, 9, 10, 11, 12, 13, 14, 15, 16, 17] rfl 6 rfl rfl rfl k_729 mX3_valueOf ⟨rfl, rfl⟩ ⟨Nat.le_of_ble_eq_true rfl, Nat.le_of_ble_eq_true rfl⟩ rfl rfl (Nat.le_of_ble_eq_true rfl) dX5_share_66 ⟨Nat.zero_le _, Nat.zero_le _⟩ ?_
      refine lv_isub hx hb dX5_share_69 ?_
      refine lv_istore (lv' := [(4, .int (y46 - y66)), (3, .int y31), (0, .ref (ad 0 99)), (1, .int x1), (2, .int x2)]) hx hb dX5_share_70 hl1 (by decide) rfl (fun ls2 hl2 => ?_)
      clear hl1
      refine lv_iload_n hx hb dX5_share_72 rfl (lv_at hl2 1 rfl) ?_
      refine lv_iload hx hb dX5_share_73 (lv_at hl2 0 rfl) ?_
      refine lv_iadd hx hb dX5_share_75 ?_
      refine lv_i2l hx hb dX5_share_76 rfl ?_
      refine lv_ldc2 (v := (2 : Int64)) hx hb hown (hW _ k_741) dX5_share_77 ?_
      refine lv_iload_n hx hb dX5_share_80 rfl (lv_at hl2 4 rfl) ?_
      obtain ⟨y81, hy81, hm⟩ := bn hm
      refine cSRl (As := [.long ((y31 + (y46 - y66)).toInt64), .long (2 : Int64), .int x2]) (rest := []) X hP0 hl2.1 (c_X5_fraction l D q ((y31 + (y46 - y66)).toInt64) (2 : Int64) x2 y81 hy81) [] rfl k_742 mX5_fraction ⟨rfl, rfl⟩ ⟨Nat.le_of_ble_eq_true rfl, Nat.le_of_ble_eq_true rfl⟩ rfl rfl (Nat.le_of_ble_eq_true rfl) dX5_share_81 ⟨Nat.zero_le _, Nat.zero_le _⟩ ?_
      exact eRl  X hr hlocks hm dX5_share_84
    · replace hm := tp hm c17
      refine lv_ldc2 (v := (-1 : Int64)) hx hb hown (hW _ k_740) dX5_share_20 ?_
      exact eRl  X hr hlocks hm dX5_share_23
noncomputable def m_X5_looks_K16 (x1 : Int32) (z16 : Int32 × Int32) : Option (Int32) :=
  (if z16.1 = (-4 : Int32) then some z16.1 else (if x1 = (1 : Int32) then some z16.1 else (m_J6_bitCount_0f7a4 z16.1).bind (fun y93 => some y93)))
noncomputable def m_X5_looks_J46 (v1 : SV) (z16 : Int32 × Int32) (z46 : Unit) : Option ((Int32 × Int32) ⊕ (Int32 × Int32)) :=
  (m_X3_exposesAll v1 z16.2).bind (fun y63 => (if y63 = 0 then some (.inl (z16.1, (z16.2 + (1 : Int32)))) else some (.inl (z16.2, (z16.2 + (1 : Int32))))))
noncomputable def m_X5_looks_L16 (v1 : SV) (z16 : Int32 × Int32) : Option ((Int32 × Int32) ⊕ (Int32 × Int32)) :=
  (if ((1 : Int32) <<< ((v1 0 0) &&& 31)) ≤ z16.2 then some (.inr (z16.1, z16.2)) else (if z16.1 = (-4 : Int32) then m_X5_looks_J46 v1 z16 () else (m_J6_bitCount_0f7a4 z16.2).bind (fun y36 => (m_J6_bitCount_0f7a4 z16.1).bind (fun y40 => (if y40 ≤ y36 then some (.inl (z16.1, (z16.2 + (1 : Int32)))) else m_X5_looks_J46 v1 z16 ())))))
noncomputable def m_X5_looks (v0 : SV) (v1 : SV) (x1 : Int32) : Option (Int32) :=
  (m_X5_within x1 (0 : Int32) (1 : Int32)).bind (fun y3 => (if y3 = 0 then some (-1 : Int32) else (lpC (m_X5_looks_L16 v1) ((-4 : Int32), (0 : Int32))).bind (m_X5_looks_K16 x1)))
set_option maxHeartbeats 4000000 in
set_option maxRecDepth 100000 in
theorem c_X5_looks (l : Launch) (D : va_G) (q : Nat → ClassId) (ad : Nat → Nat → Nat) (v0 : SV) (v1 : SV) (x1 : Int32) (res : Int32) (hm : m_X5_looks v0 v1 x1 = some res) : Met l yX5_looks (mw yX5_looks cX5_looks 5 (some .int)) ({ frames := 3, cells := 0, slots := 0, locals := 66 } : Room) (pcR D q (wX5 q ad v0 ++ wX3 q (ad 1) v1) [.ref (ad 0 99), .int x1]) (vp_Si (fun x => x = res)) 0 0 (fun _ => False) := by
  refine Met.ofW (cc := cX5_looks) (maxL := 5) (ret := (some .int)) (by decide) rfl ?_
  intro p e s m args below meth c s₁ B hml hv
  obtain ⟨rfl, hP0, hK⟩ := hv
  have hx := B.exec
  have hb := B.bytes
  have hr := B.returns
  have hW := mw_ws (atoms_spec (ws := mw yX5_looks cX5_looks 5 (some .int)) B.pre)
  have hown : s.vm.findClass RX5 = some m.cls := findClass_of_methodNamed B.named
  have hlocks := B.notSynchronized
  have X : Cx p s m [.ref (ad 0 99), .int x1].toArray c cX5_looks 5 RX5 D q := ⟨hx, hb, hml, hown, hW, hK⟩
  have hl0 := lv_entry ([.ref (ad 0 99), .int x1]) (n := 5) (Nat.le_of_ble_eq_true rfl)
  rw [lg_entry_eq]
  generalize (lg_sl ([.ref (ad 0 99), .int x1]) ++ List.replicate (5 - (lg_sl ([.ref (ad 0 99), .int x1])).length) Slot.unset).toArray = ls0 at hl0 ⊢
  have hl0 : lv_has ls0 5 [(0, .ref (ad 0 99)), (1, .int x1)] := hl0
  unfold m_X5_looks at hm
  refine lv_iload_n hx hb dX5_looks_0 rfl (lv_at hl0 1 rfl) ?_
  refine lv_iconst (v := (0 : Int32)) hx hb dX5_looks_1 (by decide) ?_
  refine lv_iconst (v := (1 : Int32)) hx hb dX5_looks_2 (by decide) ?_
  obtain ⟨y3, hy3, hm⟩ := bn hm
  refine cSRi (As := [.int x1, .int (0 : Int32), .int (1 : Int32)]) (rest := []) X hP0 hl0.1 (c_X5_within l D q x1 (0 : Int32) (1 : Int32) y3 hy3) [] rfl k_346 mX5_within ⟨rfl, rfl⟩ ⟨Nat.le_of_ble_eq_true rfl, Nat.le_of_ble_eq_true rfl⟩ rfl rfl (Nat.le_of_ble_eq_true rfl) dX5_looks_3 ⟨Nat.zero_le _, Nat.zero_le _⟩ ?_
  refine lv_if_ne (tgt := 11) hx hb dX5_looks_6 (by decide) (fun c6 => ?_) (fun c6 => ?_)
  · replace hm := tn hm c6
    refine lv_bipush (v := (-4 : Int32)) hx hb dX5_looks_11 (by decide) ?_
    refine lv_istore_n (lv' := [(2, .int (-4 : Int32)), (0, .ref (ad 0 99)), (1, .int x1)]) hx hb dX5_looks_13 rfl hl0 (by decide) rfl (fun ls1 hl1 => ?_)
    clear hl0
    refine lv_iconst (v := (0 : Int32)) hx hb dX5_looks_14 (by decide) ?_
    refine lv_istore_n (lv' := [(3, .int (0 : Int32)), (2, .int (-4 : Int32)), (0, .ref (ad 0 99)), (1, .int x1)]) hx hb dX5_looks_15 rfl hl1 (by decide) rfl (fun ls2 hl2 => ?_)
    clear hl1
    obtain ⟨r16, hr16, hm⟩ := bn hm
    obtain ⟨n16, hn16⟩ := lpC_ex hr16
    have hE16 : ∀ z16 : Int32 × Int32, m_X5_looks_K16 x1 z16 = some res → ∀ ls : Array Slot, lv_has ls 5 [(1, .int x1), (2, .int z16.1)] → W p l e ((headSpec (mw yX5_looks cX5_looks 5 (some .int)) ({ frames := 3, cells := 0, slots := 0, locals := 66 } : Room)).room) s m [.ref (ad 0 99), .int x1].toArray below meth c s.heap [] 0 0 (MQ below (vp_Si (fun x => x = res)) [.ref (ad 0 99), .int x1].toArray s 0 0 (fun _ => False)) (F0 m 77 ls []) := by
      intro z16 hm ls4 hl4
      unfold m_X5_looks_K16 at hm
      refine lv_iload_n hx hb dX5_looks_77 rfl (lv_at hl4 1 rfl) ?_
      refine lv_bipush (v := (-4 : Int32)) hx hb dX5_looks_78 (by decide) ?_
      refine lv_icmp_eq (tgt := 88) hx hb dX5_looks_80 (by decide) (fun c80 => ?_) (fun c80 => ?_)
      · replace hm := tp hm c80
        refine lv_iload_n hx hb dX5_looks_88 rfl (lv_at hl4 1 rfl) ?_
        refine lv_goto (tgt := 96) hx hb dX5_looks_89 (by decide) ?_
        exact eRi  X hr hlocks hm dX5_looks_96
      · replace hm := tn hm c80
        refine lv_iload_n hx hb dX5_looks_83 rfl (lv_at hl4 0 rfl) ?_
        refine lv_iconst (v := (1 : Int32)) hx hb dX5_looks_84 (by decide) ?_
        refine lv_icmp_ne (tgt := 92) hx hb dX5_looks_85 (by decide) (fun c85 => ?_) (fun c85 => ?_)
        · replace hm := tn hm c85
          refine lv_iload_n hx hb dX5_looks_92 rfl (lv_at hl4 1 rfl) ?_
          obtain ⟨y93, hy93, hm⟩ := bn hm
          refine cSRi (As := [.int z16.1]) (rest := []) X hP0 hl4.1 (c_J6_bitCount_0f7a4 l D q z16.1 y93 hy93) [] rfl k_749 mJ6_bitCount_0f7a4 ⟨rfl, rfl⟩ ⟨Nat.le_of_ble_eq_true rfl, Nat.le_of_ble_eq_true rfl⟩ rfl rfl (Nat.le_of_ble_eq_true rfl) dX5_looks_93 ⟨Nat.zero_le _, Nat.zero_le _⟩ ?_
          exact eRi  X hr hlocks hm dX5_looks_96
        · replace hm := tp hm c85
          refine lv_iload_n hx hb dX5_looks_88 rfl (lv_at hl4 1 rfl) ?_
          refine lv_goto (tgt := 96) hx hb dX5_looks_89 (by decide) ?_
          exact eRi  X hr hlocks hm dX5_looks_96
    have hL16 : ∀ (n : Nat) (z16 : Int32 × Int32) (ρ16 : Int32 × Int32), lpO (m_X5_looks_L16 v1) n z16 = some ρ16 → (m_X5_looks_K16 x1) ρ16 = some res → ∀ ls : Array Slot, lv_has ls 5 [(0, .ref (ad 0 99)), (1, .int x1), (2, .int z16.1), (3, .int z16.2)] → W p l e ((headSpec (mw yX5_looks cX5_looks 5 (some .int)) ({ frames := 3, cells := 0, slots := 0, locals := 66 } : Room)).room) s m [.ref (ad 0 99), .int x1].toArray below meth c s.heap [] 0 0 (MQ below (vp_Si (fun x => x = res)) [.ref (ad 0 99), .int x1].toArray s 0 0 (fun _ => False)) (F0 m 16 ls []) := by
      intro n
      induction n with
      | zero => intro _ _ h; cases h
      | succ n ih16 =>
        intro z16 ρ16 hz16 hK16 ls3 hl3
        obtain ⟨t16, hm, hz16⟩ := bn hz16
        unfold m_X5_looks_L16 at hm
        refine lv_iload_n hx hb dX5_looks_16 rfl (lv_at hl3 3 rfl) ?_
        refine lv_iconst (v := (1 : Int32)) hx hb dX5_looks_17 (by decide) ?_
        refine lv_aload_n hx hb dX5_looks_18 rfl (lv_at hl3 0 rfl) ?_
        refine va_get (D := D) (ci := 5) (v := .ref (ad 1 99)) (C := RX5) (T := TX5) (N := 11) hx hb hW iX5 hown hK hP0 0 rfl rfl 1 (by decide) (hW _ k_309) (fun _ h => h) rfl dX5_looks_19 ?_
        refine va_get (D := D) (ci := 3) (v := .int (v1 0 0)) (C := RX3) (T := TX3) (N := 17) hx hb hW iX3 hown hK hP0 6 rfl rfl 0 (by decide) (hW _ k_85) (fun _ h => h) rfl dX5_looks_22 ?_
        refine lv_ishl hx hb dX5_looks_25 ?_
        refine lv_icmp_ge (tgt := 77) hx hb dX5_looks_26 (by decide) (fun c26 => ?_) (fun c26 => ?_)
        · replace hm := tp hm c26
          cases hm
          cases hz16
          exact hE16 (z16.1, z16.2) hK16 _ (lv_sub hl3 [1, 2] rfl)
        · replace hm := tn hm c26
          refine lv_iload_n hx hb dX5_looks_29 rfl (lv_at hl3 2 rfl) ?_
          refine lv_bipush (v := (-4 : Int32)) hx hb dX5_looks_30 (by decide) ?_
          have hJ46 : ∀ z46 : Unit, m_X5_looks_J46 v1 z16 z46 = some t16 → ∀ ls : Array Slot, lv_has ls 5 [(0, .ref (ad 0 99)), (1, .int x1), (2, .int z16.1), (3, .int z16.2)] → W p l e ((headSpec (mw yX5_looks cX5_looks 5 (some .int)) ({ frames := 3, cells := 0, slots := 0, locals := 66 } : Room)).room) s m [.ref (ad 0 99), .int x1].toArray below meth c s.heap [] 0 0 (MQ below (vp_Si (fun x => x = res)) [.ref (ad 0 99), .int x1].toArray s 0 0 (fun _ => False)) (F0 m 46 ls []) := by
            intro z46 hm ls5 hl5
            unfold m_X5_looks_J46 at hm
            refine lv_iconst (v := (1 : Int32)) hx hb dX5_looks_46 (by decide) ?_
            refine lv_goto (tgt := 51) hx hb dX5_looks_47 (by decide) ?_
            refine lv_istore (lv' := [(4, .int (1 : Int32)), (0, .ref (ad 0 99)), (1, .int x1), (2, .int z16.1), (3, .int z16.2)]) hx hb dX5_looks_51 hl5 (by decide) rfl (fun ls6 hl6 => ?_)
            clear hl5
            refine lv_iload hx hb dX5_looks_53 (lv_at hl6 0 rfl) ?_
            refine lv_if_eq (tgt := 71) hx hb dX5_looks_55 (by decide) (fun c55 => absurd c55 (by decide)) (fun _ => ?_)
            refine lv_aload_n hx hb dX5_looks_58 rfl (lv_at hl6 1 rfl) ?_
            refine va_get (D := D) (ci := 5) (v := .ref (ad 1 99)) (C := RX5) (T := TX5) (N := 11) hx hb hW iX5 hown hK hP0 0 rfl rfl 1 (by decide) (hW _ k_309) (fun _ h => h) rfl dX5_looks_59 ?_
            refine lv_iload_n hx hb dX5_looks_62 rfl (lv_at hl6 4 rfl) ?_
            obtain ⟨y63, hy63, hm⟩ := bn hm
            refine cVRi (As := [.int z16.2]) (rest := []) X hP0 hl6.1 (c_X3_exposesAll l D q (ad 1) v1 z16.2 y63 hy63) [6, 7, 8, 9, 10, 11, 12, 13, 14, 15, 16, 17] rfl 6 rfl rfl rfl k_750 mX3_exposesAll ⟨rfl, rfl⟩ ⟨Nat.le_of_ble_eq_true rfl, Nat.le_of_ble_eq_true rfl⟩ rfl rfl (Nat.le_of_ble_eq_true rfl) dX5_looks_63 ⟨Nat.zero_le _, Nat.zero_le _⟩ ?_
            refine lv_if_eq (tgt := 71) hx hb dX5_looks_66 (by decide) (fun c66 => ?_) (fun c66 => ?_)
            · replace hm := tp hm c66
              refine lv_iinc (v := (z16.2 + (1 : Int32))) (lv' := [(3, .int (z16.2 + (1 : Int32))), (4, .int (1 : Int32)), (0, .ref (ad 0 99)), (1, .int x1), (2, .int z16.1)]) hx hb dX5_looks_71 hl6 (k := 4) rfl rfl (by decide) rfl (fun ls7 hl7 => ?_)
              clear hl6
              refine lv_goto (tgt := 16) hx hb dX5_looks_74 (by decide) ?_
              cases hm
              exact ih16 (z16.1, (z16.2 + (1 : Int32))) ρ16 hz16 hK16 _ (lv_sub hl7 [2, 3, 4, 0] rfl)
            · replace hm := tn hm c66
              refine lv_iload_n hx hb dX5_looks_69 rfl (lv_at hl6 4 rfl) ?_
              refine lv_istore_n (lv' := [(2, .int z16.2), (4, .int (1 : Int32)), (0, .ref (ad 0 99)), (1, .int x1), (3, .int z16.2)]) hx hb dX5_looks_70 rfl hl6 (by decide) rfl (fun ls8 hl8 => ?_)
              clear hl6
              refine lv_iinc (v := (z16.2 + (1 : Int32))) (lv' := [(3, .int (z16.2 + (1 : Int32))), (2, .int z16.2), (4, .int (1 : Int32)), (0, .ref (ad 0 99)), (1, .int x1)]) hx hb dX5_looks_71 hl8 (k := 4) rfl rfl (by decide) rfl (fun ls9 hl9 => ?_)
              clear hl8
              refine lv_goto (tgt := 16) hx hb dX5_looks_74 (by decide) ?_
              cases hm
              exact ih16 (z16.2, (z16.2 + (1 : Int32))) ρ16 hz16 hK16 _ (lv_sub hl9 [3, 4, 1, 0] rfl)
          refine lv_icmp_eq (tgt := 46) hx hb dX5_looks_32 (by decide) (fun c32 => ?_) (fun c32 => ?_)
          · replace hm := tp hm c32
            exact hJ46 () hm _ (lv_sub hl3 [0, 1, 2, 3] rfl)
          · replace hm := tn hm c32
            refine lv_iload_n hx hb dX5_looks_35 rfl (lv_at hl3 3 rfl) ?_
            obtain ⟨y36, hy36, hm⟩ := bn hm
            refine cSRi (As := [.int z16.2]) (rest := []) X hP0 hl3.1 (c_J6_bitCount_0f7a4 l D q z16.2 y36 hy36) [] rfl k_749 mJ6_bitCount_0f7a4 ⟨rfl, rfl⟩ ⟨Nat.le_of_ble_eq_true rfl, Nat.le_of_ble_eq_true rfl⟩ rfl rfl (Nat.le_of_ble_eq_true rfl) dX5_looks_36 ⟨Nat.zero_le _, Nat.zero_le _⟩ ?_
            refine lv_iload_n hx hb dX5_looks_39 rfl (lv_at hl3 2 rfl) ?_
            obtain ⟨y40, hy40, hm⟩ := bn hm
            refine cSRi (As := [.int z16.1]) (rest := [.int y36]) X hP0 hl3.1 (c_J6_bitCount_0f7a4 l D q z16.1 y40 hy40) [] rfl k_749 mJ6_bitCount_0f7a4 ⟨rfl, rfl⟩ ⟨Nat.le_of_ble_eq_true rfl, Nat.le_of_ble_eq_true rfl⟩ rfl rfl (Nat.le_of_ble_eq_true rfl) dX5_looks_40 ⟨Nat.zero_le _, Nat.zero_le _⟩ ?_
            refine lv_icmp_ge (tgt := 50) hx hb dX5_looks_43 (by decide) (fun c43 => ?_) (fun c43 => ?_)
            · replace hm := tp hm c43
              refine lv_iconst (v := (0 : Int32)) hx hb dX5_looks_50 (by decide) ?_
              refine lv_istore (lv' := [(4, .int (0 : Int32)), (0, .ref (ad 0 99)), (1, .int x1), (2, .int z16.1), (3, .int z16.2)]) hx hb dX5_looks_51 hl3 (by decide) rfl (fun ls10 hl10 => ?_)
              clear hl3
              refine lv_iload hx hb dX5_looks_53 (lv_at hl10 0 rfl) ?_
              refine lv_if_eq (tgt := 71) hx hb dX5_looks_55 (by decide) (fun _ => ?_) (fun c55 => absurd c55 (by decide))
              refine lv_iinc (v := (z16.2 + (1 : Int32))) (lv' := [(3, .int (z16.2 + (1 : Int32))), (4, .int (0 : Int32)), (0, .ref (ad 0 99)), (1, .int x1), (2, .int z16.1)]) hx hb dX5_looks_71 hl10 (k := 4) rfl rfl (by decide) rfl (fun ls11 hl11 => ?_)
              clear hl10
              refine lv_goto (tgt := 16) hx hb dX5_looks_74 (by decide) ?_
              cases hm
              exact ih16 (z16.1, (z16.2 + (1 : Int32))) ρ16 hz16 hK16 _ (lv_sub hl11 [2, 3, 4, 0] rfl)
            · replace hm := tn hm c43
              exact hJ46 () hm _ (lv_sub hl3 [0, 1, 2, 3] rfl)
    exact hL16 n16 ((-4 : Int32), (0 : Int32)) r16 hn16 hm _ (lv_sub hl2 [2, 3, 1, 0] rfl)
  · replace hm := tp hm c6
    refine lv_iconst (v := (-1 : Int32)) hx hb dX5_looks_9 (by decide) ?_
    exact eRi  X hr hlocks hm dX5_looks_10
noncomputable def m_X5_alive_K31 (x2 : Int32) (z31 : Int64 × Int64 × Int32) : Option (Int64) :=
  (m_X5_fraction z31.1 z31.2.1 x2).bind (fun y81 => some y81)
noncomputable def m_X5_alive_L31 (v1 : SV) (x1 : Int32) (z31 : Int64 × Int64 × Int32) : Option ((Int64 × Int64 × Int32) ⊕ (Int64 × Int64 × Int32)) :=
  (if (v1 0 1) ≤ z31.2.2 then some (.inr (z31.1, z31.2.1, z31.2.2)) else (m_X3_showing v1 z31.2.2).bind (fun y49 => (if y49 = 0 then some (.inl (z31.1, z31.2.1, (z31.2.2 + (1 : Int32)))) else some (.inl ((z31.1 * (((10 : Int32) - x1).toInt64)), (z31.2.1 * (10 : Int64)), (z31.2.2 + (1 : Int32)))))))
noncomputable def m_X5_alive (v0 : SV) (v1 : SV) (x1 : Int32) (x2 : Int32) : Option (Int64) :=
  (m_X5_within x1 (0 : Int32) (10 : Int32)).bind (fun y4 => (if y4 = 0 then some (-1 : Int64) else (m_X5_within x2 (0 : Int32) (1 : Int32)).bind (fun y13 => (if y13 = 0 then some (-1 : Int64) else (lpC (m_X5_alive_L31 v1 x1) ((1 : Int64), (1 : Int64), (0 : Int32))).bind (m_X5_alive_K31 x2)))))
set_option maxHeartbeats 4000000 in
set_option maxRecDepth 100000 in
theorem c_X5_alive (l : Launch) (D : va_G) (q : Nat → ClassId) (ad : Nat → Nat → Nat) (v0 : SV) (v1 : SV) (x1 : Int32) (x2 : Int32) (res : Int64) (hm : m_X5_alive v0 v1 x1 x2 = some res) : Met l yX5_alive (mw yX5_alive cX5_alive 8 (some .long)) ({ frames := 3, cells := 0, slots := 0, locals := 65 } : Room) (pcR D q (wX5 q ad v0 ++ wX3 q (ad 1) v1) [.ref (ad 0 99), .int x1, .int x2]) (vp_Sl (fun x => x = res)) 0 0 (fun _ => False) := by
  refine Met.ofW (cc := cX5_alive) (maxL := 8) (ret := (some .long)) (by decide) rfl ?_
  intro p e s m args below meth c s₁ B hml hv
  obtain ⟨rfl, hP0, hK⟩ := hv
  have hx := B.exec
  have hb := B.bytes
  have hr := B.returns
  have hW := mw_ws (atoms_spec (ws := mw yX5_alive cX5_alive 8 (some .long)) B.pre)
  have hown : s.vm.findClass RX5 = some m.cls := findClass_of_methodNamed B.named
  have hlocks := B.notSynchronized
  have X : Cx p s m [.ref (ad 0 99), .int x1, .int x2].toArray c cX5_alive 8 RX5 D q := ⟨hx, hb, hml, hown, hW, hK⟩
  have hl0 := lv_entry ([.ref (ad 0 99), .int x1, .int x2]) (n := 8) (Nat.le_of_ble_eq_true rfl)
  rw [lg_entry_eq]
  generalize (lg_sl ([.ref (ad 0 99), .int x1, .int x2]) ++ List.replicate (8 - (lg_sl ([.ref (ad 0 99), .int x1, .int x2])).length) Slot.unset).toArray = ls0 at hl0 ⊢
  have hl0 : lv_has ls0 8 [(0, .ref (ad 0 99)), (1, .int x1), (2, .int x2)] := hl0
  unfold m_X5_alive at hm
  refine lv_iload_n hx hb dX5_alive_0 rfl (lv_at hl0 1 rfl) ?_
  refine lv_iconst (v := (0 : Int32)) hx hb dX5_alive_1 (by decide) ?_
  refine lv_bipush (v := (10 : Int32)) hx hb dX5_alive_2 (by decide) ?_
  obtain ⟨y4, hy4, hm⟩ := bn hm
  refine cSRi (As := [.int x1, .int (0 : Int32), .int (10 : Int32)]) (rest := []) X hP0 hl0.1 (c_X5_within l D q x1 (0 : Int32) (10 : Int32) y4 hy4) [] rfl k_346 mX5_within ⟨rfl, rfl⟩ ⟨Nat.le_of_ble_eq_true rfl, Nat.le_of_ble_eq_true rfl⟩ rfl rfl (Nat.le_of_ble_eq_true rfl) dX5_alive_4 ⟨Nat.zero_le _, Nat.zero_le _⟩ ?_
  refine lv_if_eq (tgt := 19) hx hb dX5_alive_7 (by decide) (fun c7 => ?_) (fun c7 => ?_)
  · replace hm := tp hm c7
    refine lv_ldc2 (v := (-1 : Int64)) hx hb hown (hW _ k_740) dX5_alive_19 ?_
    exact eRl  X hr hlocks hm dX5_alive_22
  · replace hm := tn hm c7
    refine lv_iload_n hx hb dX5_alive_10 rfl (lv_at hl0 2 rfl) ?_
    refine lv_iconst (v := (0 : Int32)) hx hb dX5_alive_11 (by decide) ?_
    refine lv_iconst (v := (1 : Int32)) hx hb dX5_alive_12 (by decide) ?_
    obtain ⟨y13, hy13, hm⟩ := bn hm
    refine cSRi (As := [.int x2, .int (0 : Int32), .int (1 : Int32)]) (rest := []) X hP0 hl0.1 (c_X5_within l D q x2 (0 : Int32) (1 : Int32) y13 hy13) [] rfl k_346 mX5_within ⟨rfl, rfl⟩ ⟨Nat.le_of_ble_eq_true rfl, Nat.le_of_ble_eq_true rfl⟩ rfl rfl (Nat.le_of_ble_eq_true rfl) dX5_alive_13 ⟨Nat.zero_le _, Nat.zero_le _⟩ ?_
    refine lv_if_ne (tgt := 23) hx hb dX5_alive_16 (by decide) (fun c16 => ?_) (fun c16 => ?_)
    · replace hm := tn hm c16
      refine lv_lconst (v := (1 : Int64)) hx hb dX5_alive_23 (by decide) ?_
      refine lv_lstore_n (lv' := [(3, .long (1 : Int64)), (0, .ref (ad 0 99)), (1, .int x1), (2, .int x2)]) hx hb dX5_alive_24 rfl hl0 (by decide) rfl (fun ls1 hl1 => ?_)
      clear hl0
      refine lv_lconst (v := (1 : Int64)) hx hb dX5_alive_25 (by decide) ?_
      refine lv_lstore (lv' := [(5, .long (1 : Int64)), (3, .long (1 : Int64)), (0, .ref (ad 0 99)), (1, .int x1), (2, .int x2)]) hx hb dX5_alive_26 hl1 (by decide) rfl (fun ls2 hl2 => ?_)
      clear hl1
      refine lv_iconst (v := (0 : Int32)) hx hb dX5_alive_28 (by decide) ?_
      refine lv_istore (lv' := [(7, .int (0 : Int32)), (5, .long (1 : Int64)), (3, .long (1 : Int64)), (0, .ref (ad 0 99)), (1, .int x1), (2, .int x2)]) hx hb dX5_alive_29 hl2 (by decide) rfl (fun ls3 hl3 => ?_)
      clear hl2
      obtain ⟨r31, hr31, hm⟩ := bn hm
      obtain ⟨n31, hn31⟩ := lpC_ex hr31
      have hE31 : ∀ z31 : Int64 × Int64 × Int32, m_X5_alive_K31 x2 z31 = some res → ∀ ls : Array Slot, lv_has ls 8 [(2, .int x2), (3, .long z31.1), (5, .long z31.2.1)] → W p l e ((headSpec (mw yX5_alive cX5_alive 8 (some .long)) ({ frames := 3, cells := 0, slots := 0, locals := 65 } : Room)).room) s m [.ref (ad 0 99), .int x1, .int x2].toArray below meth c s.heap [] 0 0 (MQ below (vp_Sl (fun x => x = res)) [.ref (ad 0 99), .int x1, .int x2].toArray s 0 0 (fun _ => False)) (F0 m 77 ls []) := by
        intro z31 hm ls5 hl5
        unfold m_X5_alive_K31 at hm
        refine lv_lload_n hx hb dX5_alive_77 rfl (lv_at hl5 1 rfl) ?_
        refine lv_lload hx hb dX5_alive_78 (lv_at hl5 2 rfl) ?_
        refine lv_iload_n hx hb dX5_alive_80 rfl (lv_at hl5 0 rfl) ?_
        obtain ⟨y81, hy81, hm⟩ := bn hm
        refine cSRl (As := [.long z31.1, .long z31.2.1, .int x2]) (rest := []) X hP0 hl5.1 (c_X5_fraction l D q z31.1 z31.2.1 x2 y81 hy81) [] rfl k_742 mX5_fraction ⟨rfl, rfl⟩ ⟨Nat.le_of_ble_eq_true rfl, Nat.le_of_ble_eq_true rfl⟩ rfl rfl (Nat.le_of_ble_eq_true rfl) dX5_alive_81 ⟨Nat.zero_le _, Nat.zero_le _⟩ ?_
        exact eRl  X hr hlocks hm dX5_alive_84
      have hL31 : ∀ (n : Nat) (z31 : Int64 × Int64 × Int32) (ρ31 : Int64 × Int64 × Int32), lpO (m_X5_alive_L31 v1 x1) n z31 = some ρ31 → (m_X5_alive_K31 x2) ρ31 = some res → ∀ ls : Array Slot, lv_has ls 8 [(0, .ref (ad 0 99)), (1, .int x1), (2, .int x2), (3, .long z31.1), (5, .long z31.2.1), (7, .int z31.2.2)] → W p l e ((headSpec (mw yX5_alive cX5_alive 8 (some .long)) ({ frames := 3, cells := 0, slots := 0, locals := 65 } : Room)).room) s m [.ref (ad 0 99), .int x1, .int x2].toArray below meth c s.heap [] 0 0 (MQ below (vp_Sl (fun x => x = res)) [.ref (ad 0 99), .int x1, .int x2].toArray s 0 0 (fun _ => False)) (F0 m 31 ls []) := by
        intro n
        induction n with
        | zero => intro _ _ h; cases h
        | succ n ih31 =>
          intro z31 ρ31 hz31 hK31 ls4 hl4
          obtain ⟨t31, hm, hz31⟩ := bn hz31
          unfold m_X5_alive_L31 at hm
          refine lv_iload hx hb dX5_alive_31 (lv_at hl4 5 rfl) ?_
          refine lv_aload_n hx hb dX5_alive_33 rfl (lv_at hl4 0 rfl) ?_
          refine va_get (D := D) (ci := 5) (v := .ref (ad 1 99)) (C := RX5) (T := TX5) (N := 11) hx hb hW iX5 hown hK hP0 0 rfl rfl 1 (by decide) (hW _ k_309) (fun _ h => h) rfl dX5_alive_34 ?_
          refine va_get (D := D) (ci := 3) (v := .int (v1 0 1)) (C := RX3) (T := TX3) (N := 17) hx hb hW iX3 hown hK hP0 6 rfl rfl 1 (by decide) (hW _ k_89) (fun _ h => h) rfl dX5_alive_37 ?_
          refine lv_icmp_ge (tgt := 77) hx hb dX5_alive_40 (by decide) (fun c40 => ?_) (fun c40 => ?_)
          · replace hm := tp hm c40
            cases hm
            cases hz31
            exact hE31 (z31.1, z31.2.1, z31.2.2) hK31 _ (lv_sub hl4 [2, 3, 4] rfl)
          · replace hm := tn hm c40
            refine lv_aload_n hx hb dX5_alive_43 rfl (lv_at hl4 0 rfl) ?_
            refine va_get (D := D) (ci := 5) (v := .ref (ad 1 99)) (C := RX5) (T := TX5) (N := 11) hx hb hW iX5 hown hK hP0 0 rfl rfl 1 (by decide) (hW _ k_309) (fun _ h => h) rfl dX5_alive_44 ?_
            refine lv_iload hx hb dX5_alive_47 (lv_at hl4 5 rfl) ?_
            obtain ⟨y49, hy49, hm⟩ := bn hm
            refine cVRi (As := [.int z31.2.2]) (rest := []) X hP0 hl4.1 (c_X3_showing l D q (ad 1) v1 z31.2.2 y49 hy49) [6, 7, 8, 9, 10, 11, 12, 13, 14, 15, 16, 17] rfl 6 rfl rfl rfl k_522 mX3_showing ⟨rfl, rfl⟩ ⟨Nat.le_of_ble_eq_true rfl, Nat.le_of_ble_eq_true rfl⟩ rfl rfl (Nat.le_of_ble_eq_true rfl) dX5_alive_49 ⟨Nat.zero_le _, Nat.zero_le _⟩ ?_
            refine lv_if_eq (tgt := 71) hx hb dX5_alive_52 (by decide) (fun c52 => ?_) (fun c52 => ?_)
            · replace hm := tp hm c52
              refine lv_iinc (v := (z31.2.2 + (1 : Int32))) (lv' := [(7, .int (z31.2.2 + (1 : Int32))), (0, .ref (ad 0 99)), (1, .int x1), (2, .int x2), (3, .long z31.1), (5, .long z31.2.1)]) hx hb dX5_alive_71 hl4 (k := 5) rfl rfl (by decide) rfl (fun ls6 hl6 => ?_)
              clear hl4
              refine lv_goto (tgt := 31) hx hb dX5_alive_74 (by decide) ?_
              cases hm
              exact ih31 (z31.1, z31.2.1, (z31.2.2 + (1 : Int32))) ρ31 hz31 hK31 _ (lv_sub hl6 [1, 2, 3, 4, 5, 0] rfl)
            · replace hm := tn hm c52
              refine lv_lload_n hx hb dX5_alive_55 rfl (lv_at hl4 3 rfl) ?_
              refine lv_bipush (v := (10 : Int32)) hx hb dX5_alive_56 (by decide) ?_
              refine lv_iload_n hx hb dX5_alive_58 rfl (lv_at hl4 1 rfl) ?_
              refine lv_isub hx hb dX5_alive_59 ?_
              refine lv_i2l hx hb dX5_alive_60 rfl ?_
              refine lv_lmul hx hb dX5_alive_61 ?_
              refine lv_lstore_n (lv' := [(3, .long (z31.1 * (((10 : Int32) - x1).toInt64))), (0, .ref (ad 0 99)), (1, .int x1), (2, .int x2), (5, .long z31.2.1), (7, .int z31.2.2)]) hx hb dX5_alive_62 rfl hl4 (by decide) rfl (fun ls7 hl7 => ?_)
              clear hl4
              refine lv_lload hx hb dX5_alive_63 (lv_at hl7 4 rfl) ?_
              refine lv_ldc2 (v := (10 : Int64)) hx hb hown (hW _ k_758) dX5_alive_65 ?_
              refine lv_lmul hx hb dX5_alive_68 ?_
              refine lv_lstore (lv' := [(5, .long (z31.2.1 * (10 : Int64))), (3, .long (z31.1 * (((10 : Int32) - x1).toInt64))), (0, .ref (ad 0 99)), (1, .int x1), (2, .int x2), (7, .int z31.2.2)]) hx hb dX5_alive_69 hl7 (by decide) rfl (fun ls8 hl8 => ?_)
              clear hl7
              refine lv_iinc (v := (z31.2.2 + (1 : Int32))) (lv' := [(7, .int (z31.2.2 + (1 : Int32))), (5, .long (z31.2.1 * (10 : Int64))), (3, .long (z31.1 * (((10 : Int32) - x1).toInt64))), (0, .ref (ad 0 99)), (1, .int x1), (2, .int x2)]) hx hb dX5_alive_71 hl8 (k := 5) rfl rfl (by decide) rfl (fun ls9 hl9 => ?_)
              clear hl8
              refine lv_goto (tgt := 31) hx hb dX5_alive_74 (by decide) ?_
              cases hm
              exact ih31 ((z31.1 * (((10 : Int32) - x1).toInt64)), (z31.2.1 * (10 : Int64)), (z31.2.2 + (1 : Int32))) ρ31 hz31 hK31 _ (lv_sub hl9 [3, 4, 5, 2, 1, 0] rfl)
      exact hL31 n31 ((1 : Int64), (1 : Int64), (0 : Int32)) r31 hn31 hm _ (lv_sub hl3 [3, 4, 5, 2, 1, 0] rfl)
    · replace hm := tp hm c16
      refine lv_ldc2 (v := (-1 : Int64)) hx hb hown (hW _ k_740) dX5_alive_19 ?_
      exact eRl  X hr hlocks hm dX5_alive_22
noncomputable def m_X5_mean_K28 (v1 : SV) (x1 : Int32) (x2 : Int32) (z28 : Int32 × Int32) : Option (Int64) :=
  (m_X3_everybody v1).bind (fun y68 => (m_X3_valueOf v1 y68).bind (fun y71 => (m_X5_fraction ((((10 : Int64) * (((10 : Int32) - x1).toInt64)) * (z28.1.toInt64)) + (((((10 : Int32) - x1).toInt64) * (((10 : Int32) - x1).toInt64)) * ((y71 - z28.1).toInt64))) (100 : Int64) x2).bind (fun y108 => some y108)))
noncomputable def m_X5_mean_L28 (v1 : SV) (z28 : Int32 × Int32) : Option ((Int32 × Int32) ⊕ (Int32 × Int32)) :=
  (if (v1 0 1) ≤ z28.2 then some (.inr (z28.1, z28.2)) else (m_X3_valueOf v1 ((1 : Int32) <<< (z28.2 &&& 31))).bind (fun y49 => some (.inl ((z28.1 + y49), (z28.2 + (1 : Int32))))))
noncomputable def m_X5_mean (v0 : SV) (v1 : SV) (x1 : Int32) (x2 : Int32) : Option (Int64) :=
  (m_X5_within x1 (0 : Int32) (10 : Int32)).bind (fun y4 => (if y4 = 0 then some (-1 : Int64) else (m_X5_within x2 (0 : Int32) (1 : Int32)).bind (fun y13 => (if y13 = 0 then some (-1 : Int64) else (lpC (m_X5_mean_L28 v1) ((0 : Int32), (0 : Int32))).bind (m_X5_mean_K28 v1 x1 x2)))))
set_option maxHeartbeats 4000000 in
set_option maxRecDepth 100000 in
theorem c_X5_mean (l : Launch) (D : va_G) (q : Nat → ClassId) (ad : Nat → Nat → Nat) (v0 : SV) (v1 : SV) (x1 : Int32) (x2 : Int32) (res : Int64) (hm : m_X5_mean v0 v1 x1 x2 = some res) : Met l yX5_mean (mw yX5_mean cX5_mean 7 (some .long)) ({ frames := 5, cells := 0, slots := 0, locals := 113 } : Room) (pcR D q (wX5 q ad v0 ++ wX3 q (ad 1) v1) [.ref (ad 0 99), .int x1, .int x2]) (vp_Sl (fun x => x = res)) 0 0 (fun _ => False) := by
  refine Met.ofW (cc := cX5_mean) (maxL := 7) (ret := (some .long)) (by decide) rfl ?_
  intro p e s m args below meth c s₁ B hml hv
  obtain ⟨rfl, hP0, hK⟩ := hv
  have hx := B.exec
  have hb := B.bytes
  have hr := B.returns
  have hW := mw_ws (atoms_spec (ws := mw yX5_mean cX5_mean 7 (some .long)) B.pre)
  have hown : s.vm.findClass RX5 = some m.cls := findClass_of_methodNamed B.named
  have hlocks := B.notSynchronized
  have X : Cx p s m [.ref (ad 0 99), .int x1, .int x2].toArray c cX5_mean 7 RX5 D q := ⟨hx, hb, hml, hown, hW, hK⟩
  have hl0 := lv_entry ([.ref (ad 0 99), .int x1, .int x2]) (n := 7) (Nat.le_of_ble_eq_true rfl)
  rw [lg_entry_eq]
  generalize (lg_sl ([.ref (ad 0 99), .int x1, .int x2]) ++ List.replicate (7 - (lg_sl ([.ref (ad 0 99), .int x1, .int x2])).length) Slot.unset).toArray = ls0 at hl0 ⊢
  have hl0 : lv_has ls0 7 [(0, .ref (ad 0 99)), (1, .int x1), (2, .int x2)] := hl0
  unfold m_X5_mean at hm
  refine lv_iload_n hx hb dX5_mean_0 rfl (lv_at hl0 1 rfl) ?_
  refine lv_iconst (v := (0 : Int32)) hx hb dX5_mean_1 (by decide) ?_
  refine lv_bipush (v := (10 : Int32)) hx hb dX5_mean_2 (by decide) ?_
  obtain ⟨y4, hy4, hm⟩ := bn hm
  refine cSRi (As := [.int x1, .int (0 : Int32), .int (10 : Int32)]) (rest := []) X hP0 hl0.1 (c_X5_within l D q x1 (0 : Int32) (10 : Int32) y4 hy4) [] rfl k_346 mX5_within ⟨rfl, rfl⟩ ⟨Nat.le_of_ble_eq_true rfl, Nat.le_of_ble_eq_true rfl⟩ rfl rfl (Nat.le_of_ble_eq_true rfl) dX5_mean_4 ⟨Nat.zero_le _, Nat.zero_le _⟩ ?_
  refine lv_if_eq (tgt := 19) hx hb dX5_mean_7 (by decide) (fun c7 => ?_) (fun c7 => ?_)
  · replace hm := tp hm c7
    refine lv_ldc2 (v := (-1 : Int64)) hx hb hown (hW _ k_740) dX5_mean_19 ?_
    exact eRl  X hr hlocks hm dX5_mean_22
  · replace hm := tn hm c7
    refine lv_iload_n hx hb dX5_mean_10 rfl (lv_at hl0 2 rfl) ?_
    refine lv_iconst (v := (0 : Int32)) hx hb dX5_mean_11 (by decide) ?_
    refine lv_iconst (v := (1 : Int32)) hx hb dX5_mean_12 (by decide) ?_
    obtain ⟨y13, hy13, hm⟩ := bn hm
    refine cSRi (As := [.int x2, .int (0 : Int32), .int (1 : Int32)]) (rest := []) X hP0 hl0.1 (c_X5_within l D q x2 (0 : Int32) (1 : Int32) y13 hy13) [] rfl k_346 mX5_within ⟨rfl, rfl⟩ ⟨Nat.le_of_ble_eq_true rfl, Nat.le_of_ble_eq_true rfl⟩ rfl rfl (Nat.le_of_ble_eq_true rfl) dX5_mean_13 ⟨Nat.zero_le _, Nat.zero_le _⟩ ?_
    refine lv_if_ne (tgt := 23) hx hb dX5_mean_16 (by decide) (fun c16 => ?_) (fun c16 => ?_)
    · replace hm := tn hm c16
      refine lv_iconst (v := (0 : Int32)) hx hb dX5_mean_23 (by decide) ?_
      refine lv_istore_n (lv' := [(3, .int (0 : Int32)), (0, .ref (ad 0 99)), (1, .int x1), (2, .int x2)]) hx hb dX5_mean_24 rfl hl0 (by decide) rfl (fun ls1 hl1 => ?_)
      clear hl0
      refine lv_iconst (v := (0 : Int32)) hx hb dX5_mean_25 (by decide) ?_
      refine lv_istore (lv' := [(4, .int (0 : Int32)), (3, .int (0 : Int32)), (0, .ref (ad 0 99)), (1, .int x1), (2, .int x2)]) hx hb dX5_mean_26 hl1 (by decide) rfl (fun ls2 hl2 => ?_)
      clear hl1
      obtain ⟨r28, hr28, hm⟩ := bn hm
      obtain ⟨n28, hn28⟩ := lpC_ex hr28
      have hE28 : ∀ z28 : Int32 × Int32, m_X5_mean_K28 v1 x1 x2 z28 = some res → ∀ ls : Array Slot, lv_has ls 7 [(0, .ref (ad 0 99)), (1, .int x1), (2, .int x2), (3, .int z28.1)] → W p l e ((headSpec (mw yX5_mean cX5_mean 7 (some .long)) ({ frames := 5, cells := 0, slots := 0, locals := 113 } : Room)).room) s m [.ref (ad 0 99), .int x1, .int x2].toArray below meth c s.heap [] 0 0 (MQ below (vp_Sl (fun x => x = res)) [.ref (ad 0 99), .int x1, .int x2].toArray s 0 0 (fun _ => False)) (F0 m 60 ls []) := by
        intro z28 hm ls4 hl4
        unfold m_X5_mean_K28 at hm
        refine lv_aload_n hx hb dX5_mean_60 rfl (lv_at hl4 0 rfl) ?_
        refine va_get (D := D) (ci := 5) (v := .ref (ad 1 99)) (C := RX5) (T := TX5) (N := 11) hx hb hW iX5 hown hK hP0 0 rfl rfl 1 (by decide) (hW _ k_309) (fun _ h => h) rfl dX5_mean_61 ?_
        refine lv_aload_n hx hb dX5_mean_64 rfl (lv_at hl4 0 rfl) ?_
        refine va_get (D := D) (ci := 5) (v := .ref (ad 1 99)) (C := RX5) (T := TX5) (N := 11) hx hb hW iX5 hown hK hP0 0 rfl rfl 1 (by decide) (hW _ k_309) (fun _ h => h) rfl dX5_mean_65 ?_
        obtain ⟨y68, hy68, hm⟩ := bn hm
        refine cVRi (As := []) (rest := [.ref (ad 1 99)]) X hP0 hl4.1 (c_X3_everybody l D q (ad 1) v1 y68 hy68) [6, 7, 8, 9, 10, 11, 12, 13, 14, 15, 16, 17] rfl 6 rfl rfl rfl k_728 mX3_everybody ⟨rfl, rfl⟩ ⟨Nat.le_of_ble_eq_true rfl, Nat.le_of_ble_eq_true rfl⟩ rfl rfl (Nat.le_of_ble_eq_true rfl) dX5_mean_68 ⟨Nat.zero_le _, Nat.zero_le _⟩ ?_
        obtain ⟨y71, hy71, hm⟩ := bn hm
        refine cVRi (As := [.int y68]) (rest := []) X hP0 hl4.1 (c_X3_valueOf l D q (ad 1) v1 y68 y71 hy71) [6, 7, 8, 9, 10, 11, 12, 13, 14, 15, 16, 17] rfl 6 rfl rfl rfl k_729 mX3_valueOf ⟨rfl, rfl⟩ ⟨Nat.le_of_ble_eq_true rfl, Nat.le_of_ble_eq_true rfl⟩ rfl rfl (Nat.le_of_ble_eq_true rfl) dX5_mean_71 ⟨Nat.zero_le _, Nat.zero_le _⟩ ?_
        refine lv_iload_n hx hb dX5_mean_74 rfl (lv_at hl4 3 rfl) ?_
        refine lv_isub hx hb dX5_mean_75 ?_
        refine lv_istore (lv' := [(4, .int (y71 - z28.1)), (0, .ref (ad 0 99)), (1, .int x1), (2, .int x2), (3, .int z28.1)]) hx hb dX5_mean_76 hl4 (by decide) rfl (fun ls5 hl5 => ?_)
        clear hl4
        refine lv_bipush (v := (10 : Int32)) hx hb dX5_mean_78 (by decide) ?_
        refine lv_iload_n hx hb dX5_mean_80 rfl (lv_at hl5 2 rfl) ?_
        refine lv_isub hx hb dX5_mean_81 ?_
        refine lv_i2l hx hb dX5_mean_82 rfl ?_
        refine lv_lstore (lv' := [(5, .long (((10 : Int32) - x1).toInt64)), (4, .int (y71 - z28.1)), (0, .ref (ad 0 99)), (1, .int x1), (2, .int x2), (3, .int z28.1)]) hx hb dX5_mean_83 hl5 (by decide) rfl (fun ls6 hl6 => ?_)
        clear hl5
        refine lv_ldc2 (v := (10 : Int64)) hx hb hown (hW _ k_758) dX5_mean_85 ?_
        refine lv_lload hx hb dX5_mean_88 (lv_at hl6 0 rfl) ?_
        refine lv_lmul hx hb dX5_mean_90 ?_
        refine lv_iload_n hx hb dX5_mean_91 rfl (lv_at hl6 5 rfl) ?_
        refine lv_i2l hx hb dX5_mean_92 rfl ?_
        refine lv_lmul hx hb dX5_mean_93 ?_
        refine lv_lload hx hb dX5_mean_94 (lv_at hl6 0 rfl) ?_
        refine lv_lload hx hb dX5_mean_96 (lv_at hl6 0 rfl) ?_
        refine lv_lmul hx hb dX5_mean_98 ?_
        refine lv_iload hx hb dX5_mean_99 (lv_at hl6 1 rfl) ?_
        refine lv_i2l hx hb dX5_mean_101 rfl ?_
        refine lv_lmul hx hb dX5_mean_102 ?_
        refine lv_ladd hx hb dX5_mean_103 ?_
        refine lv_ldc2 (v := (100 : Int64)) hx hb hown (hW _ k_763) dX5_mean_104 ?_
        refine lv_iload_n hx hb dX5_mean_107 rfl (lv_at hl6 4 rfl) ?_
        obtain ⟨y108, hy108, hm⟩ := bn hm
        refine cSRl (As := [.long ((((10 : Int64) * (((10 : Int32) - x1).toInt64)) * (z28.1.toInt64)) + (((((10 : Int32) - x1).toInt64) * (((10 : Int32) - x1).toInt64)) * ((y71 - z28.1).toInt64))), .long (100 : Int64), .int x2]) (rest := []) X hP0 hl6.1 (c_X5_fraction l D q ((((10 : Int64) * (((10 : Int32) - x1).toInt64)) * (z28.1.toInt64)) + (((((10 : Int32) - x1).toInt64) * (((10 : Int32) - x1).toInt64)) * ((y71 - z28.1).toInt64))) (100 : Int64) x2 y108 hy108) [] rfl k_742 mX5_fraction ⟨rfl, rfl⟩ ⟨Nat.le_of_ble_eq_true rfl, Nat.le_of_ble_eq_true rfl⟩ rfl rfl (Nat.le_of_ble_eq_true rfl) dX5_mean_108 ⟨Nat.zero_le _, Nat.zero_le _⟩ ?_
        exact eRl  X hr hlocks hm dX5_mean_111
      have hL28 : ∀ (n : Nat) (z28 : Int32 × Int32) (ρ28 : Int32 × Int32), lpO (m_X5_mean_L28 v1) n z28 = some ρ28 → (m_X5_mean_K28 v1 x1 x2) ρ28 = some res → ∀ ls : Array Slot, lv_has ls 7 [(0, .ref (ad 0 99)), (1, .int x1), (2, .int x2), (3, .int z28.1), (4, .int z28.2)] → W p l e ((headSpec (mw yX5_mean cX5_mean 7 (some .long)) ({ frames := 5, cells := 0, slots := 0, locals := 113 } : Room)).room) s m [.ref (ad 0 99), .int x1, .int x2].toArray below meth c s.heap [] 0 0 (MQ below (vp_Sl (fun x => x = res)) [.ref (ad 0 99), .int x1, .int x2].toArray s 0 0 (fun _ => False)) (F0 m 28 ls []) := by
        intro n
        induction n with
        | zero => intro _ _ h; cases h
        | succ n ih28 =>
          intro z28 ρ28 hz28 hK28 ls3 hl3
          obtain ⟨t28, hm, hz28⟩ := bn hz28
          unfold m_X5_mean_L28 at hm
          refine lv_iload hx hb dX5_mean_28 (lv_at hl3 4 rfl) ?_
          refine lv_aload_n hx hb dX5_mean_30 rfl (lv_at hl3 0 rfl) ?_
          refine va_get (D := D) (ci := 5) (v := .ref (ad 1 99)) (C := RX5) (T := TX5) (N := 11) hx hb hW iX5 hown hK hP0 0 rfl rfl 1 (by decide) (hW _ k_309) (fun _ h => h) rfl dX5_mean_31 ?_
          refine va_get (D := D) (ci := 3) (v := .int (v1 0 1)) (C := RX3) (T := TX3) (N := 17) hx hb hW iX3 hown hK hP0 6 rfl rfl 1 (by decide) (hW _ k_89) (fun _ h => h) rfl dX5_mean_34 ?_
          refine lv_icmp_ge (tgt := 60) hx hb dX5_mean_37 (by decide) (fun c37 => ?_) (fun c37 => ?_)
          · replace hm := tp hm c37
            cases hm
            cases hz28
            exact hE28 (z28.1, z28.2) hK28 _ (lv_sub hl3 [0, 1, 2, 3] rfl)
          · replace hm := tn hm c37
            refine lv_iload_n hx hb dX5_mean_40 rfl (lv_at hl3 3 rfl) ?_
            refine lv_aload_n hx hb dX5_mean_41 rfl (lv_at hl3 0 rfl) ?_
            refine va_get (D := D) (ci := 5) (v := .ref (ad 1 99)) (C := RX5) (T := TX5) (N := 11) hx hb hW iX5 hown hK hP0 0 rfl rfl 1 (by decide) (hW _ k_309) (fun _ h => h) rfl dX5_mean_42 ?_
            refine lv_iconst (v := (1 : Int32)) hx hb dX5_mean_45 (by decide) ?_
            refine lv_iload hx hb dX5_mean_46 (lv_at hl3 4 rfl) ?_
            refine lv_ishl hx hb dX5_mean_48 ?_
            obtain ⟨y49, hy49, hm⟩ := bn hm
            refine cVRi (As := [.int ((1 : Int32) <<< (z28.2 &&& 31))]) (rest := [.int z28.1]) X hP0 hl3.1 (c_X3_valueOf l D q (ad 1) v1 ((1 : Int32) <<< (z28.2 &&& 31)) y49 hy49) [6, 7, 8, 9, 10, 11, 12, 13, 14, 15, 16, 17] rfl 6 rfl rfl rfl k_729 mX3_valueOf ⟨rfl, rfl⟩ ⟨Nat.le_of_ble_eq_true rfl, Nat.le_of_ble_eq_true rfl⟩ rfl rfl (Nat.le_of_ble_eq_true rfl) dX5_mean_49 ⟨Nat.zero_le _, Nat.zero_le _⟩ ?_
            refine lv_iadd hx hb dX5_mean_52 ?_
            refine lv_istore_n (lv' := [(3, .int (z28.1 + y49)), (0, .ref (ad 0 99)), (1, .int x1), (2, .int x2), (4, .int z28.2)]) hx hb dX5_mean_53 rfl hl3 (by decide) rfl (fun ls7 hl7 => ?_)
            clear hl3
            refine lv_iinc (v := (z28.2 + (1 : Int32))) (lv' := [(4, .int (z28.2 + (1 : Int32))), (3, .int (z28.1 + y49)), (0, .ref (ad 0 99)), (1, .int x1), (2, .int x2)]) hx hb dX5_mean_54 hl7 (k := 4) rfl rfl (by decide) rfl (fun ls8 hl8 => ?_)
            clear hl7
            refine lv_goto (tgt := 28) hx hb dX5_mean_57 (by decide) ?_
            cases hm
            exact ih28 ((z28.1 + y49), (z28.2 + (1 : Int32))) ρ28 hz28 hK28 _ (lv_sub hl8 [2, 3, 4, 1, 0] rfl)
      exact hL28 n28 ((0 : Int32), (0 : Int32)) r28 hn28 hm _ (lv_sub hl2 [2, 3, 4, 1, 0] rfl)
    · replace hm := tp hm c16
      refine lv_ldc2 (v := (-1 : Int64)) hx hb hown (hW _ k_740) dX5_mean_19 ?_
      exact eRl  X hr hlocks hm dX5_mean_22
noncomputable def m_X5_see (v0 : SV) (v1 : SV) (v7 : SV) (x1 : Int32) (x2 : Int32) (x3 : Int32) : Option (Int32 × SV) :=
  (m_X3_hasPart v1 x1).bind (fun y5 => (if y5 = 0 then some ((-1 : Int32), v7) else (m_X3_hasPart v1 x2).bind (fun y16 => (if y16 = 0 then some ((-1 : Int32), v7) else (if x1 = x2 then some ((-1 : Int32), v7) else (m_X1_add v7 x1 x2 x3).bind (fun y36 => (if y36.1 = 0 then some ((-3 : Int32), y36.2) else some ((y36.2 0 0), y36.2))))))))
set_option maxHeartbeats 4000000 in
set_option maxRecDepth 100000 in
theorem c_X5_see (l : Launch) (D : va_G) (q : Nat → ClassId) (sz : Nat) (ad : Nat → Nat → Nat) (v0 : SV) (v1 : SV) (v7 : SV) (x1 : Int32) (x2 : Int32) (x3 : Int32) (res : Int32 × SV) (hm : m_X5_see v0 v1 v7 x1 x2 x3 = some res) : Met l yX5_see (mw yX5_see cX5_see 4 (some .int)) ({ frames := 1, cells := 0, slots := 0, locals := 23 } : Room) (pcW D q (wX5 q ad v0 ++ (wX3 q (ad 1) v1 ++ wX1 q (ad 7) v7)) sz [.ref (ad 0 99), .int x1, .int x2, .int x3]) (va_Qi (fun r w => r = res.1 ∧ w = res.2) (bW D q (wX5 q ad v0 ++ (wX3 q (ad 1) v1 ++ wX1 q (ad 7) v7)) sz (fun (uu : SV) => wX5 q ad v0 ++ (wX3 q (ad 1) v1 ++ wX1 q (ad 7) uu))) (va_A (wX5 q ad v0 ++ (wX3 q (ad 1) v1 ++ wX1 q (ad 7) v7)) sz)) 0 0 (va_A (wX5 q ad v0 ++ (wX3 q (ad 1) v1 ++ wX1 q (ad 7) v7)) sz) := by
  refine Met.ofW (cc := cX5_see) (maxL := 4) (ret := (some .int)) (by decide) rfl ?_
  intro p e s m args below meth c s₁ B hml hv
  obtain ⟨rfl, hsz, hP0, hK, hD0⟩ := hv
  have hx := B.exec
  have hb := B.bytes
  have hr := B.returns
  have hW := mw_ws (atoms_spec (ws := mw yX5_see cX5_see 4 (some .int)) B.pre)
  have hown : s.vm.findClass RX5 = some m.cls := findClass_of_methodNamed B.named
  have hlocks := B.notSynchronized
  have X : Cx p s m [.ref (ad 0 99), .int x1, .int x2, .int x3].toArray c cX5_see 4 RX5 D q := ⟨hx, hb, hml, hown, hW, hK⟩
  subst hsz
  replace hD0 := hD0.self (sz := s.heap.size)
  have hS0 : va_S (va_A (wX5 q ad v0 ++ (wX3 q (ad 1) v1 ++ wX1 q (ad 7) v7)) s.heap.size) s.heap s.heap [] := va_S.rf
  have hl0 := lv_entry ([.ref (ad 0 99), .int x1, .int x2, .int x3]) (n := 4) (Nat.le_of_ble_eq_true rfl)
  rw [lg_entry_eq]
  generalize (lg_sl ([.ref (ad 0 99), .int x1, .int x2, .int x3]) ++ List.replicate (4 - (lg_sl ([.ref (ad 0 99), .int x1, .int x2, .int x3])).length) Slot.unset).toArray = ls0 at hl0 ⊢
  have hl0 : lv_has ls0 4 [(0, .ref (ad 0 99)), (1, .int x1), (2, .int x2), (3, .int x3)] := hl0
  unfold m_X5_see at hm
  refine lv_aload_n hx hb dX5_see_0 rfl (lv_at hl0 0 rfl) ?_
  refine va_get (D := D) (ci := 5) (v := .ref (ad 1 99)) (C := RX5) (T := TX5) (N := 11) hx hb hW iX5 hown hK hP0 0 rfl rfl 1 (by decide) (hW _ k_309) (fun _ h => h) rfl dX5_see_1 ?_
  refine lv_iload_n hx hb dX5_see_4 rfl (lv_at hl0 1 rfl) ?_
  obtain ⟨y5, hy5, hm⟩ := bn hm
  refine cVRi (As := [.int x1]) (rest := []) X hP0 hl0.1 (c_X3_hasPart l D q (ad 1) v1 x1 y5 hy5) [6, 7, 8, 9, 10, 11, 12, 13, 14, 15, 16, 17] rfl 6 rfl rfl rfl k_538 mX3_hasPart ⟨rfl, rfl⟩ ⟨Nat.le_of_ble_eq_true rfl, Nat.le_of_ble_eq_true rfl⟩ rfl rfl (Nat.le_of_ble_eq_true rfl) dX5_see_5 ⟨Nat.zero_le _, Nat.zero_le _⟩ ?_
  refine lv_if_eq (tgt := 27) hx hb dX5_see_8 (by decide) (fun c8 => ?_) (fun c8 => ?_)
  · replace hm := tp hm c8
    refine lv_iconst (v := (-1 : Int32)) hx hb dX5_see_27 (by decide) ?_
    exact eWi (Wf := fun (uu : SV) => wX5 q ad v0 ++ (wX3 q (ad 1) v1 ++ wX1 q (ad 7) uu)) (u := v7) X hr hlocks hP0 hD0 hS0 hm dX5_see_28
  · replace hm := tn hm c8
    refine lv_aload_n hx hb dX5_see_11 rfl (lv_at hl0 0 rfl) ?_
    refine va_get (D := D) (ci := 5) (v := .ref (ad 1 99)) (C := RX5) (T := TX5) (N := 11) hx hb hW iX5 hown hK hP0 0 rfl rfl 1 (by decide) (hW _ k_309) (fun _ h => h) rfl dX5_see_12 ?_
    refine lv_iload_n hx hb dX5_see_15 rfl (lv_at hl0 2 rfl) ?_
    obtain ⟨y16, hy16, hm⟩ := bn hm
    refine cVRi (As := [.int x2]) (rest := []) X hP0 hl0.1 (c_X3_hasPart l D q (ad 1) v1 x2 y16 hy16) [6, 7, 8, 9, 10, 11, 12, 13, 14, 15, 16, 17] rfl 6 rfl rfl rfl k_538 mX3_hasPart ⟨rfl, rfl⟩ ⟨Nat.le_of_ble_eq_true rfl, Nat.le_of_ble_eq_true rfl⟩ rfl rfl (Nat.le_of_ble_eq_true rfl) dX5_see_16 ⟨Nat.zero_le _, Nat.zero_le _⟩ ?_
    refine lv_if_eq (tgt := 27) hx hb dX5_see_19 (by decide) (fun c19 => ?_) (fun c19 => ?_)
    · replace hm := tp hm c19
      refine lv_iconst (v := (-1 : Int32)) hx hb dX5_see_27 (by decide) ?_
      exact eWi (Wf := fun (uu : SV) => wX5 q ad v0 ++ (wX3 q (ad 1) v1 ++ wX1 q (ad 7) uu)) (u := v7) X hr hlocks hP0 hD0 hS0 hm dX5_see_28
    · replace hm := tn hm c19
      refine lv_iload_n hx hb dX5_see_22 rfl (lv_at hl0 1 rfl) ?_
      refine lv_iload_n hx hb dX5_see_23 rfl (lv_at hl0 2 rfl) ?_
      refine lv_icmp_ne (tgt := 29) hx hb dX5_see_24 (by decide) (fun c24 => ?_) (fun c24 => ?_)
      · replace hm := tn hm c24
        refine lv_aload_n hx hb dX5_see_29 rfl (lv_at hl0 0 rfl) ?_
        refine va_get (D := D) (ci := 5) (v := .ref (ad 7 99)) (C := RX5) (T := TX5) (N := 11) hx hb hW iX5 hown hK hP0 0 rfl rfl 5 (by decide) (hW _ k_313) (fun _ h => h) rfl dX5_see_30 ?_
        refine lv_iload_n hx hb dX5_see_33 rfl (lv_at hl0 1 rfl) ?_
        refine lv_iload_n hx hb dX5_see_34 rfl (lv_at hl0 2 rfl) ?_
        refine lv_iload_n hx hb dX5_see_35 rfl (lv_at hl0 3 rfl) ?_
        obtain ⟨y36, hy36, hm⟩ := bn hm
        refine cVWi (As := [.int x1, .int x2, .int x3]) (rest := []) (Wn := fun (uu : SV) => wX5 q ad v0 ++ (wX3 q (ad 1) v1 ++ wX1 q (ad 7) uu)) X hP0 hD0 hS0 (fun _ h => Or.inr h) hl0.1 (c_X1_add l D q s.heap.size (ad 7) v7 x1 x2 x3 y36 hy36) [18, 19, 20, 21] [0, 1, 2, 3, 4, 5, 6, 7, 8, 9, 10, 11, 12, 13, 14, 15, 16, 17] [0, 1, 2, 3, 4, 5, 6, 7, 8, 9, 10, 11, 12, 13, 14, 15, 16, 17, 18, 19, 20, 21] rfl (Wr := wX5 q ad v0 ++ wX3 q (ad 1) v1) rfl (by decide) (by decide) (by decide) (by decide) (fun _ => rfl) 18 rfl rfl rfl k_768 mX1_add ⟨rfl, rfl⟩ ⟨Nat.le_of_ble_eq_true rfl, Nat.le_of_ble_eq_true rfl⟩ rfl rfl (Nat.le_of_ble_eq_true rfl) dX5_see_36 ⟨Nat.zero_le _, Nat.zero_le _⟩ (fun H1 locs1 hP hD hS1 => ?_)
        have hP1 : va_P D cls (wX5 q ad v0 ++ (wX3 q (ad 1) v1 ++ wX1 q (ad 7) y36.2)) H1 := hP
        have hD1 : va_D (va_A (wX5 q ad v0 ++ (wX3 q (ad 1) v1 ++ wX1 q (ad 7) v7)) s.heap.size) (wX5 q ad v0 ++ (wX3 q (ad 1) v1 ++ wX1 q (ad 7) y36.2)) := hD
        clear hP hD hP0 hD0 hS0
        refine lv_if_eq (tgt := 52) hx hb dX5_see_39 (by decide) (fun c39 => ?_) (fun c39 => ?_)
        · replace hm := tp hm c39
          refine lv_bipush (v := (-3 : Int32)) hx hb dX5_see_52 (by decide) ?_
          exact eWi (Wf := fun (uu : SV) => wX5 q ad v0 ++ (wX3 q (ad 1) v1 ++ wX1 q (ad 7) uu)) (u := y36.2) X hr hlocks hP1 hD1 hS1 hm dX5_see_54
        · replace hm := tn hm c39
          refine lv_aload_n hx hb dX5_see_42 rfl (lv_at hl0 0 rfl) ?_
          refine va_get (D := D) (ci := 5) (v := .ref (ad 7 99)) (C := RX5) (T := TX5) (N := 11) hx hb hW iX5 hown hK hP1 0 rfl rfl 5 (by decide) (hW _ k_313) (fun _ h => h) rfl dX5_see_43 ?_
          refine va_get (D := D) (ci := 1) (v := .int (y36.2 0 0)) (C := RX1) (T := TX1) (N := 4) hx hb hW iX1 hown hK hP1 18 rfl rfl 0 (by decide) (hW _ k_228) (fun _ h => h) rfl dX5_see_46 ?_
          refine lv_goto (tgt := 54) hx hb dX5_see_49 (by decide) ?_
          exact eWi (Wf := fun (uu : SV) => wX5 q ad v0 ++ (wX3 q (ad 1) v1 ++ wX1 q (ad 7) uu)) (u := y36.2) X hr hlocks hP1 hD1 hS1 hm dX5_see_54
      · replace hm := tp hm c24
        refine lv_iconst (v := (-1 : Int32)) hx hb dX5_see_27 (by decide) ?_
        exact eWi (Wf := fun (uu : SV) => wX5 q ad v0 ++ (wX3 q (ad 1) v1 ++ wX1 q (ad 7) uu)) (u := v7) X hr hlocks hP0 hD0 hS0 hm dX5_see_28
noncomputable def m_X5_forget (v0 : SV) (v7 : SV) (x1 : Int32) : Option (Int32 × SV) :=
  (m_X5_within x1 (0 : Int32) (v7 0 0)).bind (fun y9 => (if y9 = 0 then some ((-1 : Int32), v7) else lett (up2 v7 0 0 x1) (fun v2_ => some ((v7 0 0), v2_))))
set_option maxHeartbeats 4000000 in
set_option maxRecDepth 100000 in
theorem c_X5_forget (l : Launch) (D : va_G) (q : Nat → ClassId) (sz : Nat) (ad : Nat → Nat → Nat) (v0 : SV) (v7 : SV) (x1 : Int32) (res : Int32 × SV) (hm : m_X5_forget v0 v7 x1 = some res) : Met l yX5_forget (mw yX5_forget cX5_forget 3 (some .int)) ({ frames := 1, cells := 0, slots := 0, locals := 22 } : Room) (pcW D q (wX5 q ad v0 ++ wX1 q (ad 7) v7) sz [.ref (ad 0 99), .int x1]) (va_Qi (fun r w => r = res.1 ∧ w = res.2) (bW D q (wX5 q ad v0 ++ wX1 q (ad 7) v7) sz (fun (uu : SV) => wX5 q ad v0 ++ wX1 q (ad 7) uu)) (va_A (wX5 q ad v0 ++ wX1 q (ad 7) v7) sz)) 0 0 (va_A (wX5 q ad v0 ++ wX1 q (ad 7) v7) sz) := by
  refine Met.ofW (cc := cX5_forget) (maxL := 3) (ret := (some .int)) (by decide) rfl ?_
  intro p e s m args below meth c s₁ B hml hv
  obtain ⟨rfl, hsz, hP0, hK, hD0⟩ := hv
  have hx := B.exec
  have hb := B.bytes
  have hr := B.returns
  have hW := mw_ws (atoms_spec (ws := mw yX5_forget cX5_forget 3 (some .int)) B.pre)
  have hown : s.vm.findClass RX5 = some m.cls := findClass_of_methodNamed B.named
  have hlocks := B.notSynchronized
  have X : Cx p s m [.ref (ad 0 99), .int x1].toArray c cX5_forget 3 RX5 D q := ⟨hx, hb, hml, hown, hW, hK⟩
  subst hsz
  replace hD0 := hD0.self (sz := s.heap.size)
  have hS0 : va_S (va_A (wX5 q ad v0 ++ wX1 q (ad 7) v7) s.heap.size) s.heap s.heap [] := va_S.rf
  have hl0 := lv_entry ([.ref (ad 0 99), .int x1]) (n := 3) (Nat.le_of_ble_eq_true rfl)
  rw [lg_entry_eq]
  generalize (lg_sl ([.ref (ad 0 99), .int x1]) ++ List.replicate (3 - (lg_sl ([.ref (ad 0 99), .int x1])).length) Slot.unset).toArray = ls0 at hl0 ⊢
  have hl0 : lv_has ls0 3 [(0, .ref (ad 0 99)), (1, .int x1)] := hl0
  unfold m_X5_forget at hm
  refine lv_iload_n hx hb dX5_forget_0 rfl (lv_at hl0 1 rfl) ?_
  refine lv_iconst (v := (0 : Int32)) hx hb dX5_forget_1 (by decide) ?_
  refine lv_aload_n hx hb dX5_forget_2 rfl (lv_at hl0 0 rfl) ?_
  refine va_get (D := D) (ci := 5) (v := .ref (ad 7 99)) (C := RX5) (T := TX5) (N := 11) hx hb hW iX5 hown hK hP0 0 rfl rfl 5 (by decide) (hW _ k_313) (fun _ h => h) rfl dX5_forget_3 ?_
  refine va_get (D := D) (ci := 1) (v := .int (v7 0 0)) (C := RX1) (T := TX1) (N := 4) hx hb hW iX1 hown hK hP0 6 rfl rfl 0 (by decide) (hW _ k_228) (fun _ h => h) rfl dX5_forget_6 ?_
  obtain ⟨y9, hy9, hm⟩ := bn hm
  refine cSRi (As := [.int x1, .int (0 : Int32), .int (v7 0 0)]) (rest := []) X hP0 hl0.1 (c_X5_within l D q x1 (0 : Int32) (v7 0 0) y9 hy9) [] rfl k_346 mX5_within ⟨rfl, rfl⟩ ⟨Nat.le_of_ble_eq_true rfl, Nat.le_of_ble_eq_true rfl⟩ rfl rfl (Nat.le_of_ble_eq_true rfl) dX5_forget_9 ⟨Nat.zero_le _, Nat.zero_le _⟩ ?_
  refine lv_if_ne (tgt := 17) hx hb dX5_forget_12 (by decide) (fun c12 => ?_) (fun c12 => ?_)
  · replace hm := tn hm c12
    refine lv_aload_n hx hb dX5_forget_17 rfl (lv_at hl0 0 rfl) ?_
    refine va_get (D := D) (ci := 5) (v := .ref (ad 7 99)) (C := RX5) (T := TX5) (N := 11) hx hb hW iX5 hown hK hP0 0 rfl rfl 5 (by decide) (hW _ k_313) (fun _ h => h) rfl dX5_forget_18 ?_
    refine va_get (D := D) (ci := 1) (v := .int (v7 0 0)) (C := RX1) (T := TX1) (N := 4) hx hb hW iX1 hown hK hP0 6 rfl rfl 0 (by decide) (hW _ k_228) (fun _ h => h) rfl dX5_forget_21 ?_
    refine lv_istore_n (lv' := [(2, .int (v7 0 0)), (0, .ref (ad 0 99)), (1, .int x1)]) hx hb dX5_forget_24 rfl hl0 (by decide) rfl (fun ls1 hl1 => ?_)
    clear hl0
    refine lv_aload_n hx hb dX5_forget_25 rfl (lv_at hl1 1 rfl) ?_
    refine va_get (D := D) (ci := 5) (v := .ref (ad 7 99)) (C := RX5) (T := TX5) (N := 11) hx hb hW iX5 hown hK hP0 0 rfl rfl 5 (by decide) (hW _ k_313) (fun _ h => h) rfl dX5_forget_26 ?_
    refine lv_iload_n hx hb dX5_forget_29 rfl (lv_at hl1 2 rfl) ?_
    refine va_put (D := D) (ci := 1) (v := .int x1) (ty := .int) (C := RX1) (T := TX1) (N := 4) hx hb hW iX1 tyX1 tyX1_ok nmX1 hown hK hP0 hD0 hS0 6 rfl rfl 0 (by decide) (hW _ k_228) (fun _ h => h) rfl (by decide +kernel) rfl rfl (Nat.le_of_ble_eq_true rfl) dX5_forget_30 (fun H2 locs2 hP hD hS2 => ?_)
    obtain ⟨v2_, e2, hm⟩ := ltd hm
    have hP2 : va_P D cls (wX5 q ad v0 ++ wX1 q (ad 7) v2_) H2 := by rw [e2]; exact hP
    have hD2 : va_D (va_A (wX5 q ad v0 ++ wX1 q (ad 7) v7) s.heap.size) (wX5 q ad v0 ++ wX1 q (ad 7) v2_) := by rw [e2]; exact hD
    clear hP hD hP0 hD0 hS0
    refine lv_iload_n hx hb dX5_forget_33 rfl (lv_at hl1 0 rfl) ?_
    exact eWi (Wf := fun (uu : SV) => wX5 q ad v0 ++ wX1 q (ad 7) uu) (u := v2_) X hr hlocks hP2 hD2 hS2 hm dX5_forget_34
  · replace hm := tp hm c12
    refine lv_iconst (v := (-1 : Int32)) hx hb dX5_forget_15 (by decide) ?_
    exact eWi (Wf := fun (uu : SV) => wX5 q ad v0 ++ wX1 q (ad 7) uu) (u := v7) X hr hlocks hP0 hD0 hS0 hm dX5_forget_16
noncomputable def m_X5_fits (v0 : SV) (v1 : SV) (v7 : SV) (v8 : SV) (x1 : Int32) : Option (Int32 × SV) :=
  (m_X5_within x1 (0 : Int32) (1 : Int32)).bind (fun y3 => (if y3 = 0 then some ((-1 : Int32), v8) else (m_X4_begin v8 v1 v7 (1 : Int32)).bind (fun y16 => (if x1 = 0 then (m_X4_howMany y16 v1 v7).bind (fun y27 => some (y27.1, y27.2)) else (m_X4_advance y16 v1 v7).bind (fun y35 => (if y35.1 = 0 then some ((-4 : Int32), y35.2) else (m_X4_number y35.2 v1 v7).bind (fun y45 => some (y45, y35.2))))))))
set_option maxHeartbeats 4000000 in
set_option maxRecDepth 100000 in
theorem c_X5_fits (l : Launch) (D : va_G) (q : Nat → ClassId) (sz : Nat) (ad : Nat → Nat → Nat) (v0 : SV) (v1 : SV) (v7 : SV) (v8 : SV) (x1 : Int32) (res : Int32 × SV) (hm : m_X5_fits v0 v1 v7 v8 x1 = some res) : Met l yX5_fits (mw yX5_fits cX5_fits 2 (some .int)) ({ frames := 5, cells := 0, slots := 0, locals := 110 } : Room) (pcW D q (wX5 q ad v0 ++ (wX3 q (ad 1) v1 ++ (wX1 q (ad 7) v7 ++ wX4 q (ad 8) v8 (ad 1 99) (ad 7 99)))) sz [.ref (ad 0 99), .int x1]) (va_Qi (fun r w => r = res.1 ∧ w = res.2) (bW D q (wX5 q ad v0 ++ (wX3 q (ad 1) v1 ++ (wX1 q (ad 7) v7 ++ wX4 q (ad 8) v8 (ad 1 99) (ad 7 99)))) sz (fun (uu : SV) => wX5 q ad v0 ++ (wX3 q (ad 1) v1 ++ (wX1 q (ad 7) v7 ++ wX4 q (ad 8) uu (ad 1 99) (ad 7 99))))) (va_A (wX5 q ad v0 ++ (wX3 q (ad 1) v1 ++ (wX1 q (ad 7) v7 ++ wX4 q (ad 8) v8 (ad 1 99) (ad 7 99)))) sz)) 0 0 (va_A (wX5 q ad v0 ++ (wX3 q (ad 1) v1 ++ (wX1 q (ad 7) v7 ++ wX4 q (ad 8) v8 (ad 1 99) (ad 7 99)))) sz) := by
  refine Met.ofW (cc := cX5_fits) (maxL := 2) (ret := (some .int)) (by decide) rfl ?_
  intro p e s m args below meth c s₁ B hml hv
  obtain ⟨rfl, hsz, hP0, hK, hD0⟩ := hv
  have hx := B.exec
  have hb := B.bytes
  have hr := B.returns
  have hW := mw_ws (atoms_spec (ws := mw yX5_fits cX5_fits 2 (some .int)) B.pre)
  have hown : s.vm.findClass RX5 = some m.cls := findClass_of_methodNamed B.named
  have hlocks := B.notSynchronized
  have X : Cx p s m [.ref (ad 0 99), .int x1].toArray c cX5_fits 2 RX5 D q := ⟨hx, hb, hml, hown, hW, hK⟩
  subst hsz
  replace hD0 := hD0.self (sz := s.heap.size)
  have hS0 : va_S (va_A (wX5 q ad v0 ++ (wX3 q (ad 1) v1 ++ (wX1 q (ad 7) v7 ++ wX4 q (ad 8) v8 (ad 1 99) (ad 7 99)))) s.heap.size) s.heap s.heap [] := va_S.rf
  have hl0 := lv_entry ([.ref (ad 0 99), .int x1]) (n := 2) (Nat.le_of_ble_eq_true rfl)
  rw [lg_entry_eq]
  generalize (lg_sl ([.ref (ad 0 99), .int x1]) ++ List.replicate (2 - (lg_sl ([.ref (ad 0 99), .int x1])).length) Slot.unset).toArray = ls0 at hl0 ⊢
  have hl0 : lv_has ls0 2 [(0, .ref (ad 0 99)), (1, .int x1)] := hl0
  unfold m_X5_fits at hm
  refine lv_iload_n hx hb dX5_fits_0 rfl (lv_at hl0 1 rfl) ?_
  refine lv_iconst (v := (0 : Int32)) hx hb dX5_fits_1 (by decide) ?_
  refine lv_iconst (v := (1 : Int32)) hx hb dX5_fits_2 (by decide) ?_
  obtain ⟨y3, hy3, hm⟩ := bn hm
  refine cSRi (As := [.int x1, .int (0 : Int32), .int (1 : Int32)]) (rest := []) X hP0 hl0.1 (c_X5_within l D q x1 (0 : Int32) (1 : Int32) y3 hy3) [] rfl k_346 mX5_within ⟨rfl, rfl⟩ ⟨Nat.le_of_ble_eq_true rfl, Nat.le_of_ble_eq_true rfl⟩ rfl rfl (Nat.le_of_ble_eq_true rfl) dX5_fits_3 ⟨Nat.zero_le _, Nat.zero_le _⟩ ?_
  refine lv_if_ne (tgt := 11) hx hb dX5_fits_6 (by decide) (fun c6 => ?_) (fun c6 => ?_)
  · replace hm := tn hm c6
    refine lv_aload_n hx hb dX5_fits_11 rfl (lv_at hl0 0 rfl) ?_
    refine va_get (D := D) (ci := 5) (v := .ref (ad 8 99)) (C := RX5) (T := TX5) (N := 11) hx hb hW iX5 hown hK hP0 0 rfl rfl 6 (by decide) (hW _ k_314) (fun _ h => h) rfl dX5_fits_12 ?_
    refine lv_iconst (v := (1 : Int32)) hx hb dX5_fits_15 (by decide) ?_
    obtain ⟨y16, hy16, hm⟩ := bn hm
    refine cVWv (As := [.int (1 : Int32)]) (rest := []) (Wn := fun (uu : SV) => wX5 q ad v0 ++ (wX3 q (ad 1) v1 ++ (wX1 q (ad 7) v7 ++ wX4 q (ad 8) uu (ad 1 99) (ad 7 99)))) X hP0 hD0 hS0 (fun _ h => Or.inr h) hl0.1 (c_X4_begin l D q s.heap.size (ad 8) v8 (ad 1) v1 (ad 7) v7 (1 : Int32) y16 hy16) [22, 23, 24, 25, 26, 27, 6, 7, 8, 9, 10, 11, 12, 13, 14, 15, 16, 17, 18, 19, 20, 21] [0, 1, 2, 3, 4, 5] [0, 1, 2, 3, 4, 5, 12, 13, 14, 15, 16, 17, 18, 19, 20, 21, 22, 23, 24, 25, 26, 27, 6, 7, 8, 9, 10, 11] rfl (Wr := wX5 q ad v0) rfl (by decide) (by decide) (by decide) (by decide) (fun _ => rfl) 22 rfl rfl rfl k_646 mX4_begin ⟨rfl, rfl⟩ ⟨Nat.le_of_ble_eq_true rfl, Nat.le_of_ble_eq_true rfl⟩ rfl rfl (Nat.le_of_ble_eq_true rfl) dX5_fits_16 ⟨Nat.zero_le _, Nat.zero_le _⟩ (fun H1 locs1 hP hD hS1 => ?_)
    have hP1 : va_P D cls (wX5 q ad v0 ++ (wX3 q (ad 1) v1 ++ (wX1 q (ad 7) v7 ++ wX4 q (ad 8) y16 (ad 1 99) (ad 7 99)))) H1 := hP
    have hD1 : va_D (va_A (wX5 q ad v0 ++ (wX3 q (ad 1) v1 ++ (wX1 q (ad 7) v7 ++ wX4 q (ad 8) v8 (ad 1 99) (ad 7 99)))) s.heap.size) (wX5 q ad v0 ++ (wX3 q (ad 1) v1 ++ (wX1 q (ad 7) v7 ++ wX4 q (ad 8) y16 (ad 1 99) (ad 7 99)))) := hD
    clear hP hD hP0 hD0 hS0
    refine lv_iload_n hx hb dX5_fits_19 rfl (lv_at hl0 1 rfl) ?_
    refine lv_if_ne (tgt := 31) hx hb dX5_fits_20 (by decide) (fun c20 => ?_) (fun c20 => ?_)
    · replace hm := tn hm c20
      refine lv_aload_n hx hb dX5_fits_31 rfl (lv_at hl0 0 rfl) ?_
      refine va_get (D := D) (ci := 5) (v := .ref (ad 8 99)) (C := RX5) (T := TX5) (N := 11) hx hb hW iX5 hown hK hP1 0 rfl rfl 6 (by decide) (hW _ k_314) (fun _ h => h) rfl dX5_fits_32 ?_
      obtain ⟨y35, hy35, hm⟩ := bn hm
      refine cVWi (As := []) (rest := []) (Wn := fun (uu : SV) => wX5 q ad v0 ++ (wX3 q (ad 1) v1 ++ (wX1 q (ad 7) v7 ++ wX4 q (ad 8) uu (ad 1 99) (ad 7 99)))) X hP1 hD1 hS1 (fun _ h => Or.inr h) hl0.1 (c_X4_advance l D q H1.size (ad 8) y16 (ad 1) v1 (ad 7) v7 y35 hy35) [22, 23, 24, 25, 26, 27, 6, 7, 8, 9, 10, 11, 12, 13, 14, 15, 16, 17, 18, 19, 20, 21] [0, 1, 2, 3, 4, 5] [0, 1, 2, 3, 4, 5, 12, 13, 14, 15, 16, 17, 18, 19, 20, 21, 22, 23, 24, 25, 26, 27, 6, 7, 8, 9, 10, 11] rfl (Wr := wX5 q ad v0) rfl (by decide) (by decide) (by decide) (by decide) (fun _ => rfl) 22 rfl rfl rfl k_780 mX4_advance ⟨rfl, rfl⟩ ⟨Nat.le_of_ble_eq_true rfl, Nat.le_of_ble_eq_true rfl⟩ rfl rfl (Nat.le_of_ble_eq_true rfl) dX5_fits_35 ⟨Nat.zero_le _, Nat.zero_le _⟩ (fun H3 locs3 hP hD hS3 => ?_)
      have hP3 : va_P D cls (wX5 q ad v0 ++ (wX3 q (ad 1) v1 ++ (wX1 q (ad 7) v7 ++ wX4 q (ad 8) y35.2 (ad 1 99) (ad 7 99)))) H3 := hP
      have hD3 : va_D (va_A (wX5 q ad v0 ++ (wX3 q (ad 1) v1 ++ (wX1 q (ad 7) v7 ++ wX4 q (ad 8) v8 (ad 1 99) (ad 7 99)))) s.heap.size) (wX5 q ad v0 ++ (wX3 q (ad 1) v1 ++ (wX1 q (ad 7) v7 ++ wX4 q (ad 8) y35.2 (ad 1 99) (ad 7 99)))) := hD
      clear hP hD hP1 hD1 hS1
      refine lv_if_eq (tgt := 51) hx hb dX5_fits_38 (by decide) (fun c38 => ?_) (fun c38 => ?_)
      · replace hm := tp hm c38
        refine lv_bipush (v := (-4 : Int32)) hx hb dX5_fits_51 (by decide) ?_
        exact eWi (Wf := fun (uu : SV) => wX5 q ad v0 ++ (wX3 q (ad 1) v1 ++ (wX1 q (ad 7) v7 ++ wX4 q (ad 8) uu (ad 1 99) (ad 7 99)))) (u := y35.2) X hr hlocks hP3 hD3 hS3 hm dX5_fits_53
      · replace hm := tn hm c38
        refine lv_aload_n hx hb dX5_fits_41 rfl (lv_at hl0 0 rfl) ?_
        refine va_get (D := D) (ci := 5) (v := .ref (ad 8 99)) (C := RX5) (T := TX5) (N := 11) hx hb hW iX5 hown hK hP3 0 rfl rfl 6 (by decide) (hW _ k_314) (fun _ h => h) rfl dX5_fits_42 ?_
        obtain ⟨y45, hy45, hm⟩ := bn hm
        refine cVRi (As := []) (rest := []) X hP3 hl0.1 (c_X4_number l D q (ad 8) y35.2 (ad 1) v1 (ad 7) v7 y45 hy45) [22, 23, 24, 25, 26, 27, 6, 7, 8, 9, 10, 11, 12, 13, 14, 15, 16, 17, 18, 19, 20, 21] rfl 22 rfl rfl rfl k_781 mX4_number ⟨rfl, rfl⟩ ⟨Nat.le_of_ble_eq_true rfl, Nat.le_of_ble_eq_true rfl⟩ rfl rfl (Nat.le_of_ble_eq_true rfl) dX5_fits_45 ⟨Nat.zero_le _, Nat.zero_le _⟩ ?_
        refine lv_goto (tgt := 53) hx hb dX5_fits_48 (by decide) ?_
        exact eWi (Wf := fun (uu : SV) => wX5 q ad v0 ++ (wX3 q (ad 1) v1 ++ (wX1 q (ad 7) v7 ++ wX4 q (ad 8) uu (ad 1 99) (ad 7 99)))) (u := y35.2) X hr hlocks hP3 hD3 hS3 hm dX5_fits_53
    · replace hm := tp hm c20
      refine lv_aload_n hx hb dX5_fits_23 rfl (lv_at hl0 0 rfl) ?_
      refine va_get (D := D) (ci := 5) (v := .ref (ad 8 99)) (C := RX5) (T := TX5) (N := 11) hx hb hW iX5 hown hK hP1 0 rfl rfl 6 (by decide) (hW _ k_314) (fun _ h => h) rfl dX5_fits_24 ?_
      obtain ⟨y27, hy27, hm⟩ := bn hm
      refine cVWi (As := []) (rest := []) (Wn := fun (uu : SV) => wX5 q ad v0 ++ (wX3 q (ad 1) v1 ++ (wX1 q (ad 7) v7 ++ wX4 q (ad 8) uu (ad 1 99) (ad 7 99)))) X hP1 hD1 hS1 (fun _ h => Or.inr h) hl0.1 (c_X4_howMany l D q H1.size (ad 8) y16 (ad 1) v1 (ad 7) v7 y27 hy27) [22, 23, 24, 25, 26, 27, 6, 7, 8, 9, 10, 11, 12, 13, 14, 15, 16, 17, 18, 19, 20, 21] [0, 1, 2, 3, 4, 5] [0, 1, 2, 3, 4, 5, 12, 13, 14, 15, 16, 17, 18, 19, 20, 21, 22, 23, 24, 25, 26, 27, 6, 7, 8, 9, 10, 11] rfl (Wr := wX5 q ad v0) rfl (by decide) (by decide) (by decide) (by decide) (fun _ => rfl) 22 rfl rfl rfl k_666 mX4_howMany ⟨rfl, rfl⟩ ⟨Nat.le_of_ble_eq_true rfl, Nat.le_of_ble_eq_true rfl⟩ rfl rfl (Nat.le_of_ble_eq_true rfl) dX5_fits_27 ⟨Nat.zero_le _, Nat.zero_le _⟩ (fun H2 locs2 hP hD hS2 => ?_)
      have hP2 : va_P D cls (wX5 q ad v0 ++ (wX3 q (ad 1) v1 ++ (wX1 q (ad 7) v7 ++ wX4 q (ad 8) y27.2 (ad 1 99) (ad 7 99)))) H2 := hP
      have hD2 : va_D (va_A (wX5 q ad v0 ++ (wX3 q (ad 1) v1 ++ (wX1 q (ad 7) v7 ++ wX4 q (ad 8) v8 (ad 1 99) (ad 7 99)))) s.heap.size) (wX5 q ad v0 ++ (wX3 q (ad 1) v1 ++ (wX1 q (ad 7) v7 ++ wX4 q (ad 8) y27.2 (ad 1 99) (ad 7 99)))) := hD
      clear hP hD hP1 hD1 hS1
      exact eWi (Wf := fun (uu : SV) => wX5 q ad v0 ++ (wX3 q (ad 1) v1 ++ (wX1 q (ad 7) v7 ++ wX4 q (ad 8) uu (ad 1 99) (ad 7 99)))) (u := y27.2) X hr hlocks hP2 hD2 hS2 hm dX5_fits_30
  · replace hm := tp hm c6
    refine lv_iconst (v := (-1 : Int32)) hx hb dX5_fits_9 (by decide) ?_
    exact eWi (Wf := fun (uu : SV) => wX5 q ad v0 ++ (wX3 q (ad 1) v1 ++ (wX1 q (ad 7) v7 ++ wX4 q (ad 8) uu (ad 1 99) (ad 7 99)))) (u := v8) X hr hlocks hP0 hD0 hS0 hm dX5_fits_10
noncomputable def m_X5_ask_K40 (x1 : Int32) (y27 : Int32 × SV × (Nat → Int32)) (v2_ : SV) (z40 : Int32 × Int32 × Int32) : Option (Int32 × SV × SV) :=
  (if z40.2.1 = (-4 : Int32) then some (z40.2.1, v2_, y27.2.1) else (if x1 = 0 then some (z40.2.1, v2_, y27.2.1) else some (z40.1, v2_, y27.2.1)))
noncomputable def m_X5_ask_K58 (z40 : Int32 × Int32 × Int32) (z58 : Int32 × Int32 × Int32) : Option ((Int32 × Int32 × Int32) ⊕ (Int32 × Int32 × Int32)) :=
  some (.inl (z58.1, z58.2.1, (z40.2.2 + (1 : Int32))))
noncomputable def m_X5_ask_L58 (v1 : SV) (y27 : Int32 × SV × (Nat → Int32)) (v2_ : SV) (z40 : Int32 × Int32 × Int32) (z58 : Int32 × Int32 × Int32) : Option ((Int32 × Int32 × Int32) ⊕ (Int32 × Int32 × Int32)) :=
  (if (v1 0 0) ≤ z58.2.2 then some (.inr (z58.1, z58.2.1, z58.2.2)) else ck (inB ((z40.2.2 * (6 : Int32)) + z58.2.2) 36) ((if z58.1 ≤ (if (v2_ 9 ((((z40.2.2 * (6 : Int32)) + z58.2.2)).toNatClampNeg)) < (y27.1 - (v2_ 9 ((((z40.2.2 * (6 : Int32)) + z58.2.2)).toNatClampNeg))) then (y27.1 - (v2_ 9 ((((z40.2.2 * (6 : Int32)) + z58.2.2)).toNatClampNeg))) else (v2_ 9 ((((z40.2.2 * (6 : Int32)) + z58.2.2)).toNatClampNeg))) then some (.inl (z58.1, z58.2.1, (z58.2.2 + (1 : Int32)))) else some (.inl ((if (v2_ 9 ((((z40.2.2 * (6 : Int32)) + z58.2.2)).toNatClampNeg)) < (y27.1 - (v2_ 9 ((((z40.2.2 * (6 : Int32)) + z58.2.2)).toNatClampNeg))) then (y27.1 - (v2_ 9 ((((z40.2.2 * (6 : Int32)) + z58.2.2)).toNatClampNeg))) else (v2_ 9 ((((z40.2.2 * (6 : Int32)) + z58.2.2)).toNatClampNeg))), (((10 : Int32) * z40.2.2) + z58.2.2), (z58.2.2 + (1 : Int32)))))))
noncomputable def m_X5_ask_L40 (v1 : SV) (y27 : Int32 × SV × (Nat → Int32)) (v2_ : SV) (z40 : Int32 × Int32 × Int32) : Option ((Int32 × Int32 × Int32) ⊕ (Int32 × Int32 × Int32)) :=
  (if (v1 0 0) ≤ z40.2.2 then some (.inr (z40.1, z40.2.1, z40.2.2)) else (lpC (m_X5_ask_L58 v1 y27 v2_ z40) (z40.1, z40.2.1, (z40.2.2 + (1 : Int32)))).bind (m_X5_ask_K58 z40))
noncomputable def m_X5_ask (v0 : SV) (v1 : SV) (v7 : SV) (v8 : SV) (x1 : Int32) : Option (Int32 × SV × SV) :=
  (m_X5_within x1 (0 : Int32) (1 : Int32)).bind (fun y3 => (if y3 = 0 then some ((-1 : Int32), v0, v8) else (m_X4_begin v8 v1 v7 (1 : Int32)).bind (fun y16 => (m_X4_countSame y16 v1 v7 36 (v0 9)).bind (fun y27 => lett (upr v0 9 y27.2.2) (fun v2_ => (lpC (m_X5_ask_L40 v1 y27 v2_) (y27.1, (-4 : Int32), (0 : Int32))).bind (m_X5_ask_K40 x1 y27 v2_))))))
set_option maxHeartbeats 4000000 in
set_option maxRecDepth 100000 in
theorem c_X5_ask (l : Launch) (D : va_G) (q : Nat → ClassId) (sz : Nat) (ad : Nat → Nat → Nat) (v0 : SV) (v1 : SV) (v7 : SV) (v8 : SV) (x1 : Int32) (res : Int32 × SV × SV) (hm : m_X5_ask v0 v1 v7 v8 x1 = some res) : Met l yX5_ask (mw yX5_ask cX5_ask 9 (some .int)) ({ frames := 5, cells := 0, slots := 0, locals := 112 } : Room) (pcW D q (wX5 q ad v0 ++ (wX3 q (ad 1) v1 ++ (wX1 q (ad 7) v7 ++ wX4 q (ad 8) v8 (ad 1 99) (ad 7 99)))) sz [.ref (ad 0 99), .int x1]) (va_Qi (fun r w => r = res.1 ∧ w = res.2) (bW D q (wX5 q ad v0 ++ (wX3 q (ad 1) v1 ++ (wX1 q (ad 7) v7 ++ wX4 q (ad 8) v8 (ad 1 99) (ad 7 99)))) sz (fun (uu : SV × SV) => wX5 q ad uu.1 ++ (wX3 q (ad 1) v1 ++ (wX1 q (ad 7) v7 ++ wX4 q (ad 8) uu.2 (ad 1 99) (ad 7 99))))) (va_A (wX5 q ad v0 ++ (wX3 q (ad 1) v1 ++ (wX1 q (ad 7) v7 ++ wX4 q (ad 8) v8 (ad 1 99) (ad 7 99)))) sz)) 0 0 (va_A (wX5 q ad v0 ++ (wX3 q (ad 1) v1 ++ (wX1 q (ad 7) v7 ++ wX4 q (ad 8) v8 (ad 1 99) (ad 7 99)))) sz) := by
  refine Met.ofW (cc := cX5_ask) (maxL := 9) (ret := (some .int)) (by decide) rfl ?_
  intro p e s m args below meth c s₁ B hml hv
  obtain ⟨rfl, hsz, hP0, hK, hD0⟩ := hv
  have hx := B.exec
  have hb := B.bytes
  have hr := B.returns
  have hW := mw_ws (atoms_spec (ws := mw yX5_ask cX5_ask 9 (some .int)) B.pre)
  have hown : s.vm.findClass RX5 = some m.cls := findClass_of_methodNamed B.named
  have hlocks := B.notSynchronized
  have X : Cx p s m [.ref (ad 0 99), .int x1].toArray c cX5_ask 9 RX5 D q := ⟨hx, hb, hml, hown, hW, hK⟩
  subst hsz
  replace hD0 := hD0.self (sz := s.heap.size)
  have hS0 : va_S (va_A (wX5 q ad v0 ++ (wX3 q (ad 1) v1 ++ (wX1 q (ad 7) v7 ++ wX4 q (ad 8) v8 (ad 1 99) (ad 7 99)))) s.heap.size) s.heap s.heap [] := va_S.rf
  have hl0 := lv_entry ([.ref (ad 0 99), .int x1]) (n := 9) (Nat.le_of_ble_eq_true rfl)
  rw [lg_entry_eq]
  generalize (lg_sl ([.ref (ad 0 99), .int x1]) ++ List.replicate (9 - (lg_sl ([.ref (ad 0 99), .int x1])).length) Slot.unset).toArray = ls0 at hl0 ⊢
  have hl0 : lv_has ls0 9 [(0, .ref (ad 0 99)), (1, .int x1)] := hl0
  unfold m_X5_ask at hm
  refine lv_iload_n hx hb dX5_ask_0 rfl (lv_at hl0 1 rfl) ?_
  refine lv_iconst (v := (0 : Int32)) hx hb dX5_ask_1 (by decide) ?_
  refine lv_iconst (v := (1 : Int32)) hx hb dX5_ask_2 (by decide) ?_
  obtain ⟨y3, hy3, hm⟩ := bn hm
  refine cSRi (As := [.int x1, .int (0 : Int32), .int (1 : Int32)]) (rest := []) X hP0 hl0.1 (c_X5_within l D q x1 (0 : Int32) (1 : Int32) y3 hy3) [] rfl k_346 mX5_within ⟨rfl, rfl⟩ ⟨Nat.le_of_ble_eq_true rfl, Nat.le_of_ble_eq_true rfl⟩ rfl rfl (Nat.le_of_ble_eq_true rfl) dX5_ask_3 ⟨Nat.zero_le _, Nat.zero_le _⟩ ?_
  refine lv_if_ne (tgt := 11) hx hb dX5_ask_6 (by decide) (fun c6 => ?_) (fun c6 => ?_)
  · replace hm := tn hm c6
    refine lv_aload_n hx hb dX5_ask_11 rfl (lv_at hl0 0 rfl) ?_
    refine va_get (D := D) (ci := 5) (v := .ref (ad 8 99)) (C := RX5) (T := TX5) (N := 11) hx hb hW iX5 hown hK hP0 0 rfl rfl 6 (by decide) (hW _ k_314) (fun _ h => h) rfl dX5_ask_12 ?_
    refine lv_iconst (v := (1 : Int32)) hx hb dX5_ask_15 (by decide) ?_
    obtain ⟨y16, hy16, hm⟩ := bn hm
    refine cVWv (As := [.int (1 : Int32)]) (rest := []) (Wn := fun (uu : SV) => wX5 q ad v0 ++ (wX3 q (ad 1) v1 ++ (wX1 q (ad 7) v7 ++ wX4 q (ad 8) uu (ad 1 99) (ad 7 99)))) X hP0 hD0 hS0 (fun _ h => Or.inr h) hl0.1 (c_X4_begin l D q s.heap.size (ad 8) v8 (ad 1) v1 (ad 7) v7 (1 : Int32) y16 hy16) [22, 23, 24, 25, 26, 27, 6, 7, 8, 9, 10, 11, 12, 13, 14, 15, 16, 17, 18, 19, 20, 21] [0, 1, 2, 3, 4, 5] [0, 1, 2, 3, 4, 5, 12, 13, 14, 15, 16, 17, 18, 19, 20, 21, 22, 23, 24, 25, 26, 27, 6, 7, 8, 9, 10, 11] rfl (Wr := wX5 q ad v0) rfl (by decide) (by decide) (by decide) (by decide) (fun _ => rfl) 22 rfl rfl rfl k_646 mX4_begin ⟨rfl, rfl⟩ ⟨Nat.le_of_ble_eq_true rfl, Nat.le_of_ble_eq_true rfl⟩ rfl rfl (Nat.le_of_ble_eq_true rfl) dX5_ask_16 ⟨Nat.zero_le _, Nat.zero_le _⟩ (fun H1 locs1 hP hD hS1 => ?_)
    have hP1 : va_P D cls (wX5 q ad v0 ++ (wX3 q (ad 1) v1 ++ (wX1 q (ad 7) v7 ++ wX4 q (ad 8) y16 (ad 1 99) (ad 7 99)))) H1 := hP
    have hD1 : va_D (va_A (wX5 q ad v0 ++ (wX3 q (ad 1) v1 ++ (wX1 q (ad 7) v7 ++ wX4 q (ad 8) v8 (ad 1 99) (ad 7 99)))) s.heap.size) (wX5 q ad v0 ++ (wX3 q (ad 1) v1 ++ (wX1 q (ad 7) v7 ++ wX4 q (ad 8) y16 (ad 1 99) (ad 7 99)))) := hD
    clear hP hD hP0 hD0 hS0
    refine lv_aload_n hx hb dX5_ask_19 rfl (lv_at hl0 0 rfl) ?_
    refine va_get (D := D) (ci := 5) (v := .ref (ad 8 99)) (C := RX5) (T := TX5) (N := 11) hx hb hW iX5 hown hK hP1 0 rfl rfl 6 (by decide) (hW _ k_314) (fun _ h => h) rfl dX5_ask_20 ?_
    refine lv_aload_n hx hb dX5_ask_23 rfl (lv_at hl0 0 rfl) ?_
    refine va_get (D := D) (ci := 5) (v := .ref (ad 0 9)) (C := RX5) (T := TX5) (N := 11) hx hb hW iX5 hown hK hP1 0 rfl rfl 9 (by decide) (hW _ k_317) (fun _ h => h) rfl dX5_ask_24 ?_
    obtain ⟨y27, hy27, hm⟩ := bn hm
    refine cVWi (As := [.ref (ad 0 9)]) (rest := []) (Wn := fun (uu : SV × (Nat → Int32)) => wX5 q ad (upr v0 9 uu.2) ++ (wX3 q (ad 1) v1 ++ (wX1 q (ad 7) v7 ++ wX4 q (ad 8) uu.1 (ad 1 99) (ad 7 99)))) X hP1 hD1 hS1 (fun _ h => Or.inr h) hl0.1 (c_X4_countSame l D q H1.size (ad 8) y16 (ad 1) v1 (ad 7) v7 (ad 0 9) 36 (v0 9) y27 hy27) [22, 23, 24, 25, 26, 27, 6, 7, 8, 9, 10, 11, 12, 13, 14, 15, 16, 17, 18, 19, 20, 21, 5] [0, 1, 2, 3, 4] [0, 1, 2, 3, 4, 27, 11, 12, 13, 14, 15, 16, 17, 18, 19, 20, 21, 22, 23, 24, 25, 26, 5, 6, 7, 8, 9, 10] rfl (Wr := [0, 1, 2, 3, 4].filterMap (fun i => (wX5 q ad v0 ++ (wX3 q (ad 1) v1 ++ (wX1 q (ad 7) v7 ++ wX4 q (ad 8) y16 (ad 1 99) (ad 7 99))))[i]?)) rfl (by decide) (by decide) (by decide) (by decide) (fun _ => rfl) 22 rfl rfl rfl k_786 mX4_countSame ⟨rfl, rfl⟩ ⟨Nat.le_of_ble_eq_true rfl, Nat.le_of_ble_eq_true rfl⟩ rfl rfl (Nat.le_of_ble_eq_true rfl) dX5_ask_27 ⟨Nat.zero_le _, Nat.zero_le _⟩ (fun H2 locs2 hP hD hS2 => ?_)
    obtain ⟨v2_, e2, hm⟩ := ltd hm
    have hP2 : va_P D cls (wX5 q ad v2_ ++ (wX3 q (ad 1) v1 ++ (wX1 q (ad 7) v7 ++ wX4 q (ad 8) y27.2.1 (ad 1 99) (ad 7 99)))) H2 := by rw [e2]; exact hP
    have hD2 : va_D (va_A (wX5 q ad v0 ++ (wX3 q (ad 1) v1 ++ (wX1 q (ad 7) v7 ++ wX4 q (ad 8) v8 (ad 1 99) (ad 7 99)))) s.heap.size) (wX5 q ad v2_ ++ (wX3 q (ad 1) v1 ++ (wX1 q (ad 7) v7 ++ wX4 q (ad 8) y27.2.1 (ad 1 99) (ad 7 99)))) := by rw [e2]; exact hD
    clear hP hD hP1 hD1 hS1
    refine lv_istore_n (lv' := [(2, .int y27.1), (0, .ref (ad 0 99)), (1, .int x1)]) hx hb dX5_ask_30 rfl hl0 (by decide) rfl (fun ls3 hl3 => ?_)
    clear hl0
    refine lv_iload_n hx hb dX5_ask_31 rfl (lv_at hl3 0 rfl) ?_
    refine lv_istore_n (lv' := [(3, .int y27.1), (2, .int y27.1), (0, .ref (ad 0 99)), (1, .int x1)]) hx hb dX5_ask_32 rfl hl3 (by decide) rfl (fun ls4 hl4 => ?_)
    clear hl3
    refine lv_bipush (v := (-4 : Int32)) hx hb dX5_ask_33 (by decide) ?_
    refine lv_istore (lv' := [(4, .int (-4 : Int32)), (3, .int y27.1), (2, .int y27.1), (0, .ref (ad 0 99)), (1, .int x1)]) hx hb dX5_ask_35 hl4 (by decide) rfl (fun ls5 hl5 => ?_)
    clear hl4
    refine lv_iconst (v := (0 : Int32)) hx hb dX5_ask_37 (by decide) ?_
    refine lv_istore (lv' := [(5, .int (0 : Int32)), (4, .int (-4 : Int32)), (3, .int y27.1), (2, .int y27.1), (0, .ref (ad 0 99)), (1, .int x1)]) hx hb dX5_ask_38 hl5 (by decide) rfl (fun ls6 hl6 => ?_)
    clear hl5
    obtain ⟨r40, hr40, hm⟩ := bn hm
    obtain ⟨n40, hn40⟩ := lpC_ex hr40
    have hE40 : ∀ z40 : Int32 × Int32 × Int32, m_X5_ask_K40 x1 y27 v2_ z40 = some res → ∀ (H : Heap) (locs : List Loc), va_P D cls (wX5 q ad v2_ ++ (wX3 q (ad 1) v1 ++ (wX1 q (ad 7) v7 ++ wX4 q (ad 8) y27.2.1 (ad 1 99) (ad 7 99)))) H → va_D (va_A (wX5 q ad v0 ++ (wX3 q (ad 1) v1 ++ (wX1 q (ad 7) v7 ++ wX4 q (ad 8) v8 (ad 1 99) (ad 7 99)))) s.heap.size) (wX5 q ad v2_ ++ (wX3 q (ad 1) v1 ++ (wX1 q (ad 7) v7 ++ wX4 q (ad 8) y27.2.1 (ad 1 99) (ad 7 99)))) → va_S (va_A (wX5 q ad v0 ++ (wX3 q (ad 1) v1 ++ (wX1 q (ad 7) v7 ++ wX4 q (ad 8) v8 (ad 1 99) (ad 7 99)))) s.heap.size) s.heap H locs → ∀ ls : Array Slot, lv_has ls 9 [(1, .int x1), (3, .int z40.1), (4, .int z40.2.1)] → W p l e ((headSpec (mw yX5_ask cX5_ask 9 (some .int)) ({ frames := 5, cells := 0, slots := 0, locals := 112 } : Room)).room) s m [.ref (ad 0 99), .int x1].toArray below meth c H locs 0 0 (MQ below (va_Qi (fun r w => r = res.1 ∧ w = res.2) (bW D q (wX5 q ad v0 ++ (wX3 q (ad 1) v1 ++ (wX1 q (ad 7) v7 ++ wX4 q (ad 8) v8 (ad 1 99) (ad 7 99)))) s.heap.size (fun (uu : SV × SV) => wX5 q ad uu.1 ++ (wX3 q (ad 1) v1 ++ (wX1 q (ad 7) v7 ++ wX4 q (ad 8) uu.2 (ad 1 99) (ad 7 99))))) (va_A (wX5 q ad v0 ++ (wX3 q (ad 1) v1 ++ (wX1 q (ad 7) v7 ++ wX4 q (ad 8) v8 (ad 1 99) (ad 7 99)))) s.heap.size)) [.ref (ad 0 99), .int x1].toArray s 0 0 (va_A (wX5 q ad v0 ++ (wX3 q (ad 1) v1 ++ (wX1 q (ad 7) v7 ++ wX4 q (ad 8) v8 (ad 1 99) (ad 7 99)))) s.heap.size)) (F0 m 127 ls []) := by
      intro z40 hm H10 locs10 hP10 hD10 hS10 ls9 hl9
      unfold m_X5_ask_K40 at hm
      refine lv_iload hx hb dX5_ask_127 (lv_at hl9 2 rfl) ?_
      refine lv_bipush (v := (-4 : Int32)) hx hb dX5_ask_129 (by decide) ?_
      refine lv_icmp_eq (tgt := 138) hx hb dX5_ask_131 (by decide) (fun c131 => ?_) (fun c131 => ?_)
      · replace hm := tp hm c131
        refine lv_iload hx hb dX5_ask_138 (lv_at hl9 2 rfl) ?_
        refine lv_goto (tgt := 144) hx hb dX5_ask_140 (by decide) ?_
        exact eWi (Wf := fun (uu : SV × SV) => wX5 q ad uu.1 ++ (wX3 q (ad 1) v1 ++ (wX1 q (ad 7) v7 ++ wX4 q (ad 8) uu.2 (ad 1 99) (ad 7 99)))) (u := (v2_, y27.2.1)) X hr hlocks hP10 hD10 hS10 hm dX5_ask_144
      · replace hm := tn hm c131
        refine lv_iload_n hx hb dX5_ask_134 rfl (lv_at hl9 0 rfl) ?_
        refine lv_if_ne (tgt := 143) hx hb dX5_ask_135 (by decide) (fun c135 => ?_) (fun c135 => ?_)
        · replace hm := tn hm c135
          refine lv_iload_n hx hb dX5_ask_143 rfl (lv_at hl9 1 rfl) ?_
          exact eWi (Wf := fun (uu : SV × SV) => wX5 q ad uu.1 ++ (wX3 q (ad 1) v1 ++ (wX1 q (ad 7) v7 ++ wX4 q (ad 8) uu.2 (ad 1 99) (ad 7 99)))) (u := (v2_, y27.2.1)) X hr hlocks hP10 hD10 hS10 hm dX5_ask_144
        · replace hm := tp hm c135
          refine lv_iload hx hb dX5_ask_138 (lv_at hl9 2 rfl) ?_
          refine lv_goto (tgt := 144) hx hb dX5_ask_140 (by decide) ?_
          exact eWi (Wf := fun (uu : SV × SV) => wX5 q ad uu.1 ++ (wX3 q (ad 1) v1 ++ (wX1 q (ad 7) v7 ++ wX4 q (ad 8) uu.2 (ad 1 99) (ad 7 99)))) (u := (v2_, y27.2.1)) X hr hlocks hP10 hD10 hS10 hm dX5_ask_144
    have hL40 : ∀ (n : Nat) (z40 : Int32 × Int32 × Int32) (ρ40 : Int32 × Int32 × Int32), lpO (m_X5_ask_L40 v1 y27 v2_) n z40 = some ρ40 → (m_X5_ask_K40 x1 y27 v2_) ρ40 = some res → ∀ (H : Heap) (locs : List Loc), va_P D cls (wX5 q ad v2_ ++ (wX3 q (ad 1) v1 ++ (wX1 q (ad 7) v7 ++ wX4 q (ad 8) y27.2.1 (ad 1 99) (ad 7 99)))) H → va_D (va_A (wX5 q ad v0 ++ (wX3 q (ad 1) v1 ++ (wX1 q (ad 7) v7 ++ wX4 q (ad 8) v8 (ad 1 99) (ad 7 99)))) s.heap.size) (wX5 q ad v2_ ++ (wX3 q (ad 1) v1 ++ (wX1 q (ad 7) v7 ++ wX4 q (ad 8) y27.2.1 (ad 1 99) (ad 7 99)))) → va_S (va_A (wX5 q ad v0 ++ (wX3 q (ad 1) v1 ++ (wX1 q (ad 7) v7 ++ wX4 q (ad 8) v8 (ad 1 99) (ad 7 99)))) s.heap.size) s.heap H locs → ∀ ls : Array Slot, lv_has ls 9 [(2, .int y27.1), (0, .ref (ad 0 99)), (1, .int x1), (3, .int z40.1), (4, .int z40.2.1), (5, .int z40.2.2)] → W p l e ((headSpec (mw yX5_ask cX5_ask 9 (some .int)) ({ frames := 5, cells := 0, slots := 0, locals := 112 } : Room)).room) s m [.ref (ad 0 99), .int x1].toArray below meth c H locs 0 0 (MQ below (va_Qi (fun r w => r = res.1 ∧ w = res.2) (bW D q (wX5 q ad v0 ++ (wX3 q (ad 1) v1 ++ (wX1 q (ad 7) v7 ++ wX4 q (ad 8) v8 (ad 1 99) (ad 7 99)))) s.heap.size (fun (uu : SV × SV) => wX5 q ad uu.1 ++ (wX3 q (ad 1) v1 ++ (wX1 q (ad 7) v7 ++ wX4 q (ad 8) uu.2 (ad 1 99) (ad 7 99))))) (va_A (wX5 q ad v0 ++ (wX3 q (ad 1) v1 ++ (wX1 q (ad 7) v7 ++ wX4 q (ad 8) v8 (ad 1 99) (ad 7 99)))) s.heap.size)) [.ref (ad 0 99), .int x1].toArray s 0 0 (va_A (wX5 q ad v0 ++ (wX3 q (ad 1) v1 ++ (wX1 q (ad 7) v7 ++ wX4 q (ad 8) v8 (ad 1 99) (ad 7 99)))) s.heap.size)) (F0 m 40 ls []) := by
      intro n
      induction n with
      | zero => intro _ _ h; cases h
      | succ n ih40 =>
        intro z40 ρ40 hz40 hK40 H8 locs8 hP8 hD8 hS8 ls7 hl7
        obtain ⟨t40, hm, hz40⟩ := bn hz40
        unfold m_X5_ask_L40 at hm
        refine lv_iload hx hb dX5_ask_40 (lv_at hl7 5 rfl) ?_
        refine lv_aload_n hx hb dX5_ask_42 rfl (lv_at hl7 1 rfl) ?_
        refine va_get (D := D) (ci := 5) (v := .ref (ad 1 99)) (C := RX5) (T := TX5) (N := 11) hx hb hW iX5 hown hK hP8 0 rfl rfl 1 (by decide) (hW _ k_309) (fun _ h => h) rfl dX5_ask_43 ?_
        refine va_get (D := D) (ci := 3) (v := .int (v1 0 0)) (C := RX3) (T := TX3) (N := 17) hx hb hW iX3 hown hK hP8 6 rfl rfl 0 (by decide) (hW _ k_85) (fun _ h => h) rfl dX5_ask_46 ?_
        refine lv_icmp_ge (tgt := 127) hx hb dX5_ask_49 (by decide) (fun c49 => ?_) (fun c49 => ?_)
        · replace hm := tp hm c49
          cases hm
          cases hz40
          exact hE40 (z40.1, z40.2.1, z40.2.2) hK40 _ _ hP8 hD8 hS8 _ (lv_sub hl7 [2, 3, 4] rfl)
        · replace hm := tn hm c49
          refine lv_iload hx hb dX5_ask_52 (lv_at hl7 5 rfl) ?_
          refine lv_iconst (v := (1 : Int32)) hx hb dX5_ask_54 (by decide) ?_
          refine lv_iadd hx hb dX5_ask_55 ?_
          refine lv_istore (lv' := [(6, .int (z40.2.2 + (1 : Int32))), (2, .int y27.1), (0, .ref (ad 0 99)), (1, .int x1), (3, .int z40.1), (4, .int z40.2.1), (5, .int z40.2.2)]) hx hb dX5_ask_56 hl7 (by decide) rfl (fun ls11 hl11 => ?_)
          clear hl7
          obtain ⟨r58, hr58, hm⟩ := bn hm
          obtain ⟨n58, hn58⟩ := lpC_ex hr58
          have hE58 : ∀ z58 : Int32 × Int32 × Int32, m_X5_ask_K58 z40 z58 = some t40 → ∀ (H : Heap) (locs : List Loc), va_P D cls (wX5 q ad v2_ ++ (wX3 q (ad 1) v1 ++ (wX1 q (ad 7) v7 ++ wX4 q (ad 8) y27.2.1 (ad 1 99) (ad 7 99)))) H → va_D (va_A (wX5 q ad v0 ++ (wX3 q (ad 1) v1 ++ (wX1 q (ad 7) v7 ++ wX4 q (ad 8) v8 (ad 1 99) (ad 7 99)))) s.heap.size) (wX5 q ad v2_ ++ (wX3 q (ad 1) v1 ++ (wX1 q (ad 7) v7 ++ wX4 q (ad 8) y27.2.1 (ad 1 99) (ad 7 99)))) → va_S (va_A (wX5 q ad v0 ++ (wX3 q (ad 1) v1 ++ (wX1 q (ad 7) v7 ++ wX4 q (ad 8) v8 (ad 1 99) (ad 7 99)))) s.heap.size) s.heap H locs → ∀ ls : Array Slot, lv_has ls 9 [(2, .int y27.1), (0, .ref (ad 0 99)), (1, .int x1), (5, .int z40.2.2), (3, .int z58.1), (4, .int z58.2.1)] → W p l e ((headSpec (mw yX5_ask cX5_ask 9 (some .int)) ({ frames := 5, cells := 0, slots := 0, locals := 112 } : Room)).room) s m [.ref (ad 0 99), .int x1].toArray below meth c H locs 0 0 (MQ below (va_Qi (fun r w => r = res.1 ∧ w = res.2) (bW D q (wX5 q ad v0 ++ (wX3 q (ad 1) v1 ++ (wX1 q (ad 7) v7 ++ wX4 q (ad 8) v8 (ad 1 99) (ad 7 99)))) s.heap.size (fun (uu : SV × SV) => wX5 q ad uu.1 ++ (wX3 q (ad 1) v1 ++ (wX1 q (ad 7) v7 ++ wX4 q (ad 8) uu.2 (ad 1 99) (ad 7 99))))) (va_A (wX5 q ad v0 ++ (wX3 q (ad 1) v1 ++ (wX1 q (ad 7) v7 ++ wX4 q (ad 8) v8 (ad 1 99) (ad 7 99)))) s.heap.size)) [.ref (ad 0 99), .int x1].toArray s 0 0 (va_A (wX5 q ad v0 ++ (wX3 q (ad 1) v1 ++ (wX1 q (ad 7) v7 ++ wX4 q (ad 8) v8 (ad 1 99) (ad 7 99)))) s.heap.size)) (F0 m 121 ls []) := by
            intro z58 hm H15 locs15 hP15 hD15 hS15 ls14 hl14
            unfold m_X5_ask_K58 at hm
            refine lv_iinc (v := (z40.2.2 + (1 : Int32))) (lv' := [(5, .int (z40.2.2 + (1 : Int32))), (2, .int y27.1), (0, .ref (ad 0 99)), (1, .int x1), (3, .int z58.1), (4, .int z58.2.1)]) hx hb dX5_ask_121 hl14 (k := 3) rfl rfl (by decide) rfl (fun ls16 hl16 => ?_)
            clear hl14
            refine lv_goto (tgt := 40) hx hb dX5_ask_124 (by decide) ?_
            cases hm
            exact ih40 (z58.1, z58.2.1, (z40.2.2 + (1 : Int32))) ρ40 hz40 hK40 _ _ hP15 hD15 hS15 _ (lv_sub hl16 [1, 2, 3, 4, 5, 0] rfl)
          have hL58 : ∀ (n : Nat) (z58 : Int32 × Int32 × Int32) (ρ58 : Int32 × Int32 × Int32), lpO (m_X5_ask_L58 v1 y27 v2_ z40) n z58 = some ρ58 → (m_X5_ask_K58 z40) ρ58 = some t40 → ∀ (H : Heap) (locs : List Loc), va_P D cls (wX5 q ad v2_ ++ (wX3 q (ad 1) v1 ++ (wX1 q (ad 7) v7 ++ wX4 q (ad 8) y27.2.1 (ad 1 99) (ad 7 99)))) H → va_D (va_A (wX5 q ad v0 ++ (wX3 q (ad 1) v1 ++ (wX1 q (ad 7) v7 ++ wX4 q (ad 8) v8 (ad 1 99) (ad 7 99)))) s.heap.size) (wX5 q ad v2_ ++ (wX3 q (ad 1) v1 ++ (wX1 q (ad 7) v7 ++ wX4 q (ad 8) y27.2.1 (ad 1 99) (ad 7 99)))) → va_S (va_A (wX5 q ad v0 ++ (wX3 q (ad 1) v1 ++ (wX1 q (ad 7) v7 ++ wX4 q (ad 8) v8 (ad 1 99) (ad 7 99)))) s.heap.size) s.heap H locs → ∀ ls : Array Slot, lv_has ls 9 [(2, .int y27.1), (0, .ref (ad 0 99)), (1, .int x1), (5, .int z40.2.2), (3, .int z58.1), (4, .int z58.2.1), (6, .int z58.2.2)] → W p l e ((headSpec (mw yX5_ask cX5_ask 9 (some .int)) ({ frames := 5, cells := 0, slots := 0, locals := 112 } : Room)).room) s m [.ref (ad 0 99), .int x1].toArray below meth c H locs 0 0 (MQ below (va_Qi (fun r w => r = res.1 ∧ w = res.2) (bW D q (wX5 q ad v0 ++ (wX3 q (ad 1) v1 ++ (wX1 q (ad 7) v7 ++ wX4 q (ad 8) v8 (ad 1 99) (ad 7 99)))) s.heap.size (fun (uu : SV × SV) => wX5 q ad uu.1 ++ (wX3 q (ad 1) v1 ++ (wX1 q (ad 7) v7 ++ wX4 q (ad 8) uu.2 (ad 1 99) (ad 7 99))))) (va_A (wX5 q ad v0 ++ (wX3 q (ad 1) v1 ++ (wX1 q (ad 7) v7 ++ wX4 q (ad 8) v8 (ad 1 99) (ad 7 99)))) s.heap.size)) [.ref (ad 0 99), .int x1].toArray s 0 0 (va_A (wX5 q ad v0 ++ (wX3 q (ad 1) v1 ++ (wX1 q (ad 7) v7 ++ wX4 q (ad 8) v8 (ad 1 99) (ad 7 99)))) s.heap.size)) (F0 m 58 ls []) := by
            intro n
            induction n with
            | zero => intro _ _ h; cases h
            | succ n ih58 =>
              intro z58 ρ58 hz58 hK58 H13 locs13 hP13 hD13 hS13 ls12 hl12
              obtain ⟨t58, hm, hz58⟩ := bn hz58
              unfold m_X5_ask_L58 at hm
              refine lv_iload hx hb dX5_ask_58 (lv_at hl12 6 rfl) ?_
              refine lv_aload_n hx hb dX5_ask_60 rfl (lv_at hl12 1 rfl) ?_
              refine va_get (D := D) (ci := 5) (v := .ref (ad 1 99)) (C := RX5) (T := TX5) (N := 11) hx hb hW iX5 hown hK hP13 0 rfl rfl 1 (by decide) (hW _ k_309) (fun _ h => h) rfl dX5_ask_61 ?_
              refine va_get (D := D) (ci := 3) (v := .int (v1 0 0)) (C := RX3) (T := TX3) (N := 17) hx hb hW iX3 hown hK hP13 6 rfl rfl 0 (by decide) (hW _ k_85) (fun _ h => h) rfl dX5_ask_64 ?_
              refine lv_icmp_ge (tgt := 121) hx hb dX5_ask_67 (by decide) (fun c67 => ?_) (fun c67 => ?_)
              · replace hm := tp hm c67
                cases hm
                cases hz58
                exact hE58 (z58.1, z58.2.1, z58.2.2) hK58 _ _ hP13 hD13 hS13 _ (lv_sub hl12 [0, 1, 2, 3, 4, 5] rfl)
              · replace hm := tn hm c67
                refine lv_aload_n hx hb dX5_ask_70 rfl (lv_at hl12 1 rfl) ?_
                refine va_get (D := D) (ci := 5) (v := .ref (ad 0 9)) (C := RX5) (T := TX5) (N := 11) hx hb hW iX5 hown hK hP13 0 rfl rfl 9 (by decide) (hW _ k_317) (fun _ h => h) rfl dX5_ask_71 ?_
                refine lv_iload hx hb dX5_ask_74 (lv_at hl12 3 rfl) ?_
                refine lv_bipush (v := (6 : Int32)) hx hb dX5_ask_76 (by decide) ?_
                refine lv_imul hx hb dX5_ask_78 ?_
                refine lv_iload hx hb dX5_ask_79 (lv_at hl12 6 rfl) ?_
                refine lv_iadd hx hb dX5_ask_81 ?_
                obtain ⟨h17, hm⟩ := ckd hm
                refine va_iald (f := (v2_ 9)) hx hb hK hP13 5 0 rfl rfl (inB_vp h17) dX5_ask_82 ?_
                refine lv_istore (lv' := [(7, .int (v2_ 9 ((((z40.2.2 * (6 : Int32)) + z58.2.2)).toNatClampNeg))), (2, .int y27.1), (0, .ref (ad 0 99)), (1, .int x1), (5, .int z40.2.2), (3, .int z58.1), (4, .int z58.2.1), (6, .int z58.2.2)]) hx hb dX5_ask_83 hl12 (by decide) rfl (fun ls18 hl18 => ?_)
                clear hl12
                refine lv_iload hx hb dX5_ask_85 (lv_at hl18 0 rfl) ?_
                refine lv_iload_n hx hb dX5_ask_87 rfl (lv_at hl18 1 rfl) ?_
                refine lv_iload hx hb dX5_ask_88 (lv_at hl18 0 rfl) ?_
                refine lv_isub hx hb dX5_ask_90 ?_
                refine va_mmax hx hb (by rw [X.2.2.1]; exact hl18.1.symm) hown (hW _ k_794) (hW _ k_483) (hW _ k_52) (hW _ k_484) (by exact Nat.le_of_ble_eq_true rfl) (by exact Nat.le_of_ble_eq_true rfl) (Nat.zero_le _) (Nat.zero_le _) dX5_ask_91 ?_
                refine lv_istore (lv' := [(8, .int (if (v2_ 9 ((((z40.2.2 * (6 : Int32)) + z58.2.2)).toNatClampNeg)) < (y27.1 - (v2_ 9 ((((z40.2.2 * (6 : Int32)) + z58.2.2)).toNatClampNeg))) then (y27.1 - (v2_ 9 ((((z40.2.2 * (6 : Int32)) + z58.2.2)).toNatClampNeg))) else (v2_ 9 ((((z40.2.2 * (6 : Int32)) + z58.2.2)).toNatClampNeg)))), (7, .int (v2_ 9 ((((z40.2.2 * (6 : Int32)) + z58.2.2)).toNatClampNeg))), (2, .int y27.1), (0, .ref (ad 0 99)), (1, .int x1), (5, .int z40.2.2), (3, .int z58.1), (4, .int z58.2.1), (6, .int z58.2.2)]) hx hb dX5_ask_94 hl18 (by decide) rfl (fun ls19 hl19 => ?_)
                clear hl18
                refine lv_iload hx hb dX5_ask_96 (lv_at hl19 0 rfl) ?_
                refine lv_iload_n hx hb dX5_ask_98 rfl (lv_at hl19 6 rfl) ?_
                refine lv_icmp_ge (tgt := 115) hx hb dX5_ask_99 (by decide) (fun c99 => ?_) (fun c99 => ?_)
                · replace hm := tp hm c99
                  refine lv_iinc (v := (z58.2.2 + (1 : Int32))) (lv' := [(6, .int (z58.2.2 + (1 : Int32))), (8, .int (if (v2_ 9 ((((z40.2.2 * (6 : Int32)) + z58.2.2)).toNatClampNeg)) < (y27.1 - (v2_ 9 ((((z40.2.2 * (6 : Int32)) + z58.2.2)).toNatClampNeg))) then (y27.1 - (v2_ 9 ((((z40.2.2 * (6 : Int32)) + z58.2.2)).toNatClampNeg))) else (v2_ 9 ((((z40.2.2 * (6 : Int32)) + z58.2.2)).toNatClampNeg)))), (7, .int (v2_ 9 ((((z40.2.2 * (6 : Int32)) + z58.2.2)).toNatClampNeg))), (2, .int y27.1), (0, .ref (ad 0 99)), (1, .int x1), (5, .int z40.2.2), (3, .int z58.1), (4, .int z58.2.1)]) hx hb dX5_ask_115 hl19 (k := 8) rfl rfl (by decide) rfl (fun ls20 hl20 => ?_)
                  clear hl19
                  refine lv_goto (tgt := 58) hx hb dX5_ask_118 (by decide) ?_
                  cases hm
                  exact ih58 (z58.1, z58.2.1, (z58.2.2 + (1 : Int32))) ρ58 hz58 hK58 _ _ hP13 hD13 hS13 _ (lv_sub hl20 [3, 4, 5, 6, 7, 8, 0] rfl)
                · replace hm := tn hm c99
                  refine lv_iload hx hb dX5_ask_102 (lv_at hl19 0 rfl) ?_
                  refine lv_istore_n (lv' := [(3, .int (if (v2_ 9 ((((z40.2.2 * (6 : Int32)) + z58.2.2)).toNatClampNeg)) < (y27.1 - (v2_ 9 ((((z40.2.2 * (6 : Int32)) + z58.2.2)).toNatClampNeg))) then (y27.1 - (v2_ 9 ((((z40.2.2 * (6 : Int32)) + z58.2.2)).toNatClampNeg))) else (v2_ 9 ((((z40.2.2 * (6 : Int32)) + z58.2.2)).toNatClampNeg)))), (8, .int (if (v2_ 9 ((((z40.2.2 * (6 : Int32)) + z58.2.2)).toNatClampNeg)) < (y27.1 - (v2_ 9 ((((z40.2.2 * (6 : Int32)) + z58.2.2)).toNatClampNeg))) then (y27.1 - (v2_ 9 ((((z40.2.2 * (6 : Int32)) + z58.2.2)).toNatClampNeg))) else (v2_ 9 ((((z40.2.2 * (6 : Int32)) + z58.2.2)).toNatClampNeg)))), (7, .int (v2_ 9 ((((z40.2.2 * (6 : Int32)) + z58.2.2)).toNatClampNeg))), (2, .int y27.1), (0, .ref (ad 0 99)), (1, .int x1), (5, .int z40.2.2), (4, .int z58.2.1), (6, .int z58.2.2)]) hx hb dX5_ask_104 rfl hl19 (by decide) rfl (fun ls21 hl21 => ?_)
                  clear hl19
                  refine lv_bipush (v := (10 : Int32)) hx hb dX5_ask_105 (by decide) ?_
                  refine lv_iload hx hb dX5_ask_107 (lv_at hl21 6 rfl) ?_
                  refine lv_imul hx hb dX5_ask_109 ?_
                  refine lv_iload hx hb dX5_ask_110 (lv_at hl21 8 rfl) ?_
                  refine lv_iadd hx hb dX5_ask_112 ?_
                  refine lv_istore (lv' := [(4, .int (((10 : Int32) * z40.2.2) + z58.2.2)), (3, .int (if (v2_ 9 ((((z40.2.2 * (6 : Int32)) + z58.2.2)).toNatClampNeg)) < (y27.1 - (v2_ 9 ((((z40.2.2 * (6 : Int32)) + z58.2.2)).toNatClampNeg))) then (y27.1 - (v2_ 9 ((((z40.2.2 * (6 : Int32)) + z58.2.2)).toNatClampNeg))) else (v2_ 9 ((((z40.2.2 * (6 : Int32)) + z58.2.2)).toNatClampNeg)))), (8, .int (if (v2_ 9 ((((z40.2.2 * (6 : Int32)) + z58.2.2)).toNatClampNeg)) < (y27.1 - (v2_ 9 ((((z40.2.2 * (6 : Int32)) + z58.2.2)).toNatClampNeg))) then (y27.1 - (v2_ 9 ((((z40.2.2 * (6 : Int32)) + z58.2.2)).toNatClampNeg))) else (v2_ 9 ((((z40.2.2 * (6 : Int32)) + z58.2.2)).toNatClampNeg)))), (7, .int (v2_ 9 ((((z40.2.2 * (6 : Int32)) + z58.2.2)).toNatClampNeg))), (2, .int y27.1), (0, .ref (ad 0 99)), (1, .int x1), (5, .int z40.2.2), (6, .int z58.2.2)]) hx hb dX5_ask_113 hl21 (by decide) rfl (fun ls22 hl22 => ?_)
                  clear hl21
                  refine lv_iinc (v := (z58.2.2 + (1 : Int32))) (lv' := [(6, .int (z58.2.2 + (1 : Int32))), (4, .int (((10 : Int32) * z40.2.2) + z58.2.2)), (3, .int (if (v2_ 9 ((((z40.2.2 * (6 : Int32)) + z58.2.2)).toNatClampNeg)) < (y27.1 - (v2_ 9 ((((z40.2.2 * (6 : Int32)) + z58.2.2)).toNatClampNeg))) then (y27.1 - (v2_ 9 ((((z40.2.2 * (6 : Int32)) + z58.2.2)).toNatClampNeg))) else (v2_ 9 ((((z40.2.2 * (6 : Int32)) + z58.2.2)).toNatClampNeg)))), (8, .int (if (v2_ 9 ((((z40.2.2 * (6 : Int32)) + z58.2.2)).toNatClampNeg)) < (y27.1 - (v2_ 9 ((((z40.2.2 * (6 : Int32)) + z58.2.2)).toNatClampNeg))) then (y27.1 - (v2_ 9 ((((z40.2.2 * (6 : Int32)) + z58.2.2)).toNatClampNeg))) else (v2_ 9 ((((z40.2.2 * (6 : Int32)) + z58.2.2)).toNatClampNeg)))), (7, .int (v2_ 9 ((((z40.2.2 * (6 : Int32)) + z58.2.2)).toNatClampNeg))), (2, .int y27.1), (0, .ref (ad 0 99)), (1, .int x1), (5, .int z40.2.2)]) hx hb dX5_ask_115 hl22 (k := 8) rfl rfl (by decide) rfl (fun ls23 hl23 => ?_)
                  clear hl22
                  refine lv_goto (tgt := 58) hx hb dX5_ask_118 (by decide) ?_
                  cases hm
                  exact ih58 ((if (v2_ 9 ((((z40.2.2 * (6 : Int32)) + z58.2.2)).toNatClampNeg)) < (y27.1 - (v2_ 9 ((((z40.2.2 * (6 : Int32)) + z58.2.2)).toNatClampNeg))) then (y27.1 - (v2_ 9 ((((z40.2.2 * (6 : Int32)) + z58.2.2)).toNatClampNeg))) else (v2_ 9 ((((z40.2.2 * (6 : Int32)) + z58.2.2)).toNatClampNeg))), (((10 : Int32) * z40.2.2) + z58.2.2), (z58.2.2 + (1 : Int32))) ρ58 hz58 hK58 _ _ hP13 hD13 hS13 _ (lv_sub hl23 [5, 6, 7, 8, 2, 1, 0] rfl)
          exact hL58 n58 (z40.1, z40.2.1, (z40.2.2 + (1 : Int32))) r58 hn58 hm _ _ hP8 hD8 hS8 _ (lv_sub hl11 [1, 2, 3, 6, 4, 5, 0] rfl)
    exact hL40 n40 (y27.1, (-4 : Int32), (0 : Int32)) r40 hn40 hm _ _ hP2 hD2 hS2 _ (lv_sub hl6 [3, 4, 5, 2, 1, 0] rfl)
  · replace hm := tp hm c6
    refine lv_iconst (v := (-1 : Int32)) hx hb dX5_ask_9 (by decide) ?_
    exact eWi (Wf := fun (uu : SV × SV) => wX5 q ad uu.1 ++ (wX3 q (ad 1) v1 ++ (wX1 q (ad 7) v7 ++ wX4 q (ad 8) uu.2 (ad 1 99) (ad 7 99)))) (u := (v0, v8)) X hr hlocks hP0 hD0 hS0 hm dX5_ask_10
noncomputable def m_X5_follow (x1 : Int32) : Option (Int32) :=
  some ((x1 * (1103515245 : Int32)) + (12345 : Int32))
set_option maxHeartbeats 4000000 in
set_option maxRecDepth 100000 in
theorem c_X5_follow (l : Launch) (D : va_G) (q : Nat → ClassId) (x1 : Int32) (res : Int32) (hm : m_X5_follow x1 = some res) : Met l yX5_follow (mw yX5_follow cX5_follow 1 (some .int)) ({ frames := 0, cells := 0, slots := 0, locals := 0 } : Room) (pcR D q ([]) [.int x1]) (vp_Si (fun x => x = res)) 0 0 (fun _ => False) := by
  refine Met.ofW (cc := cX5_follow) (maxL := 1) (ret := (some .int)) (by decide) rfl ?_
  intro p e s m args below meth c s₁ B hml hv
  obtain ⟨rfl, hP0, hK⟩ := hv
  have hx := B.exec
  have hb := B.bytes
  have hr := B.returns
  have hW := mw_ws (atoms_spec (ws := mw yX5_follow cX5_follow 1 (some .int)) B.pre)
  have hown : s.vm.findClass RX5 = some m.cls := findClass_of_methodNamed B.named
  have hlocks := B.notSynchronized
  have X : Cx p s m [.int x1].toArray c cX5_follow 1 RX5 D q := ⟨hx, hb, hml, hown, hW, hK⟩
  have hl0 := lv_entry ([.int x1]) (n := 1) (Nat.le_of_ble_eq_true rfl)
  rw [lg_entry_eq]
  generalize (lg_sl ([.int x1]) ++ List.replicate (1 - (lg_sl ([.int x1])).length) Slot.unset).toArray = ls0 at hl0 ⊢
  have hl0 : lv_has ls0 1 [(0, .int x1)] := hl0
  unfold m_X5_follow at hm
  refine lv_iload_n hx hb dX5_follow_0 rfl (lv_at hl0 0 rfl) ?_
  refine lv_ldcw (v := (1103515245 : Int32)) hx hb hown (hW _ k_802) dX5_follow_1 ?_
  refine lv_imul hx hb dX5_follow_4 ?_
  refine lv_sipush (v := (12345 : Int32)) hx hb dX5_follow_5 (by decide) ?_
  refine lv_iadd hx hb dX5_follow_8 ?_
  exact eRi  X hr hlocks hm dX5_follow_9
noncomputable def m_X5_drawn (x1 : Int32) : Option (Int32) :=
  some (((x1.toUInt32 >>> ((16 : Int32).toUInt32 &&& Int32.toUInt32 31)).toInt32) &&& (32767 : Int32))
set_option maxHeartbeats 4000000 in
set_option maxRecDepth 100000 in
theorem c_X5_drawn (l : Launch) (D : va_G) (q : Nat → ClassId) (x1 : Int32) (res : Int32) (hm : m_X5_drawn x1 = some res) : Met l yX5_drawn (mw yX5_drawn cX5_drawn 1 (some .int)) ({ frames := 0, cells := 0, slots := 0, locals := 0 } : Room) (pcR D q ([]) [.int x1]) (vp_Si (fun x => x = res)) 0 0 (fun _ => False) := by
  refine Met.ofW (cc := cX5_drawn) (maxL := 1) (ret := (some .int)) (by decide) rfl ?_
  intro p e s m args below meth c s₁ B hml hv
  obtain ⟨rfl, hP0, hK⟩ := hv
  have hx := B.exec
  have hb := B.bytes
  have hr := B.returns
  have hW := mw_ws (atoms_spec (ws := mw yX5_drawn cX5_drawn 1 (some .int)) B.pre)
  have hown : s.vm.findClass RX5 = some m.cls := findClass_of_methodNamed B.named
  have hlocks := B.notSynchronized
  have X : Cx p s m [.int x1].toArray c cX5_drawn 1 RX5 D q := ⟨hx, hb, hml, hown, hW, hK⟩
  have hl0 := lv_entry ([.int x1]) (n := 1) (Nat.le_of_ble_eq_true rfl)
  rw [lg_entry_eq]
  generalize (lg_sl ([.int x1]) ++ List.replicate (1 - (lg_sl ([.int x1])).length) Slot.unset).toArray = ls0 at hl0 ⊢
  have hl0 : lv_has ls0 1 [(0, .int x1)] := hl0
  unfold m_X5_drawn at hm
  refine lv_iload_n hx hb dX5_drawn_0 rfl (lv_at hl0 0 rfl) ?_
  refine lv_bipush (v := (16 : Int32)) hx hb dX5_drawn_1 (by decide) ?_
  refine lv_iushr (v := ((x1.toUInt32 >>> ((16 : Int32).toUInt32 &&& Int32.toUInt32 31)).toInt32)) hx hb dX5_drawn_3 rfl ?_
  refine lv_sipush (v := (32767 : Int32)) hx hb dX5_drawn_4 (by decide) ?_
  refine lv_iand hx hb dX5_drawn_7 ?_
  exact eRi  X hr hlocks hm dX5_drawn_8
noncomputable def m_X5_drift_K51 (x3 : Int32) (z51 : Int32 × Int32 × SV) : Option (Int32 × SV) :=
  (if x3 = 0 then (m_X3_everybody z51.2.2).bind (fun y130 => (m_X3_valueOf z51.2.2 y130).bind (fun y133 => some (y133, z51.2.2))) else (m_X3_likeBonds z51.2.2).bind (fun y143 => some (y143, z51.2.2)))
noncomputable def m_X5_drift_L51 (v1 : SV) (x2 : Int32) (z51 : Int32 × Int32 × SV) : Option ((Int32 × Int32 × SV) ⊕ (Int32 × Int32 × SV)) :=
  (if x2 ≤ z51.2.1 then some (.inr (z51.1, z51.2.1, z51.2.2)) else (m_X5_follow z51.1).bind (fun y59 => (m_X5_drawn y59).bind (fun y66 => (m_X3_remainder y66 (v1 0 0)).bind (fun y76 => (m_X5_follow y59).bind (fun y83 => (m_X5_drawn y83).bind (fun y96 => (m_X3_remainder y96 (v1 0 1)).bind (fun y106 => (m_X3_cover z51.2.2 y76 y106).bind (fun y109 => some (.inl (y83, (z51.2.1 + (1 : Int32)), y109))))))))))
noncomputable def m_X5_drift (v0 : SV) (v1 : SV) (v2 : SV) (x1 : Int32) (x2 : Int32) (x3 : Int32) : Option (Int32 × SV) :=
  (m_X5_within x2 (1 : Int32) (60 : Int32)).bind (fun y4 => (if y4 = 0 then some ((-1 : Int32), v2) else (m_X5_within x3 (0 : Int32) (1 : Int32)).bind (fun y13 => (if y13 = 0 then some ((-1 : Int32), v2) else (if (v1 0 1) = 0 then some ((-2 : Int32), v2) else (m_X3_becomes v2 v1).bind (fun y42 => (lpC (m_X5_drift_L51 v1 x2) (x1, (0 : Int32), y42)).bind (m_X5_drift_K51 x3)))))))
set_option maxHeartbeats 4000000 in
set_option maxRecDepth 100000 in
theorem c_X5_drift (l : Launch) (D : va_G) (q : Nat → ClassId) (sz : Nat) (ad : Nat → Nat → Nat) (v0 : SV) (v1 : SV) (v2 : SV) (x1 : Int32) (x2 : Int32) (x3 : Int32) (res : Int32 × SV) (hm : m_X5_drift v0 v1 v2 x1 x2 x3 = some res) : Met l yX5_drift (mw yX5_drift cX5_drift 7 (some .int)) ({ frames := 5, cells := 0, slots := 0, locals := 113 } : Room) (pcW D q (wX5 q ad v0 ++ (wX3 q (ad 1) v1 ++ wX3 q (ad 2) v2)) sz [.ref (ad 0 99), .int x1, .int x2, .int x3]) (va_Qi (fun r w => r = res.1 ∧ w = res.2) (bW D q (wX5 q ad v0 ++ (wX3 q (ad 1) v1 ++ wX3 q (ad 2) v2)) sz (fun (uu : SV) => wX5 q ad v0 ++ (wX3 q (ad 1) v1 ++ wX3 q (ad 2) uu))) (va_A (wX5 q ad v0 ++ (wX3 q (ad 1) v1 ++ wX3 q (ad 2) v2)) sz)) 0 0 (va_A (wX5 q ad v0 ++ (wX3 q (ad 1) v1 ++ wX3 q (ad 2) v2)) sz) := by
  refine Met.ofW (cc := cX5_drift) (maxL := 7) (ret := (some .int)) (by decide) rfl ?_
  intro p e s m args below meth c s₁ B hml hv
  obtain ⟨rfl, hsz, hP0, hK, hD0⟩ := hv
  have hx := B.exec
  have hb := B.bytes
  have hr := B.returns
  have hW := mw_ws (atoms_spec (ws := mw yX5_drift cX5_drift 7 (some .int)) B.pre)
  have hown : s.vm.findClass RX5 = some m.cls := findClass_of_methodNamed B.named
  have hlocks := B.notSynchronized
  have X : Cx p s m [.ref (ad 0 99), .int x1, .int x2, .int x3].toArray c cX5_drift 7 RX5 D q := ⟨hx, hb, hml, hown, hW, hK⟩
  subst hsz
  replace hD0 := hD0.self (sz := s.heap.size)
  have hS0 : va_S (va_A (wX5 q ad v0 ++ (wX3 q (ad 1) v1 ++ wX3 q (ad 2) v2)) s.heap.size) s.heap s.heap [] := va_S.rf
  have hl0 := lv_entry ([.ref (ad 0 99), .int x1, .int x2, .int x3]) (n := 7) (Nat.le_of_ble_eq_true rfl)
  rw [lg_entry_eq]
  generalize (lg_sl ([.ref (ad 0 99), .int x1, .int x2, .int x3]) ++ List.replicate (7 - (lg_sl ([.ref (ad 0 99), .int x1, .int x2, .int x3])).length) Slot.unset).toArray = ls0 at hl0 ⊢
  have hl0 : lv_has ls0 7 [(0, .ref (ad 0 99)), (1, .int x1), (2, .int x2), (3, .int x3)] := hl0
  unfold m_X5_drift at hm
  refine lv_iload_n hx hb dX5_drift_0 rfl (lv_at hl0 2 rfl) ?_
  refine lv_iconst (v := (1 : Int32)) hx hb dX5_drift_1 (by decide) ?_
  refine lv_bipush (v := (60 : Int32)) hx hb dX5_drift_2 (by decide) ?_
  obtain ⟨y4, hy4, hm⟩ := bn hm
  refine cSRi (As := [.int x2, .int (1 : Int32), .int (60 : Int32)]) (rest := []) X hP0 hl0.1 (c_X5_within l D q x2 (1 : Int32) (60 : Int32) y4 hy4) [] rfl k_346 mX5_within ⟨rfl, rfl⟩ ⟨Nat.le_of_ble_eq_true rfl, Nat.le_of_ble_eq_true rfl⟩ rfl rfl (Nat.le_of_ble_eq_true rfl) dX5_drift_4 ⟨Nat.zero_le _, Nat.zero_le _⟩ ?_
  refine lv_if_eq (tgt := 19) hx hb dX5_drift_7 (by decide) (fun c7 => ?_) (fun c7 => ?_)
  · replace hm := tp hm c7
    refine lv_iconst (v := (-1 : Int32)) hx hb dX5_drift_19 (by decide) ?_
    exact eWi (Wf := fun (uu : SV) => wX5 q ad v0 ++ (wX3 q (ad 1) v1 ++ wX3 q (ad 2) uu)) (u := v2) X hr hlocks hP0 hD0 hS0 hm dX5_drift_20
  · replace hm := tn hm c7
    refine lv_iload_n hx hb dX5_drift_10 rfl (lv_at hl0 3 rfl) ?_
    refine lv_iconst (v := (0 : Int32)) hx hb dX5_drift_11 (by decide) ?_
    refine lv_iconst (v := (1 : Int32)) hx hb dX5_drift_12 (by decide) ?_
    obtain ⟨y13, hy13, hm⟩ := bn hm
    refine cSRi (As := [.int x3, .int (0 : Int32), .int (1 : Int32)]) (rest := []) X hP0 hl0.1 (c_X5_within l D q x3 (0 : Int32) (1 : Int32) y13 hy13) [] rfl k_346 mX5_within ⟨rfl, rfl⟩ ⟨Nat.le_of_ble_eq_true rfl, Nat.le_of_ble_eq_true rfl⟩ rfl rfl (Nat.le_of_ble_eq_true rfl) dX5_drift_13 ⟨Nat.zero_le _, Nat.zero_le _⟩ ?_
    refine lv_if_ne (tgt := 21) hx hb dX5_drift_16 (by decide) (fun c16 => ?_) (fun c16 => ?_)
    · replace hm := tn hm c16
      refine lv_aload_n hx hb dX5_drift_21 rfl (lv_at hl0 0 rfl) ?_
      refine va_get (D := D) (ci := 5) (v := .ref (ad 1 99)) (C := RX5) (T := TX5) (N := 11) hx hb hW iX5 hown hK hP0 0 rfl rfl 1 (by decide) (hW _ k_309) (fun _ h => h) rfl dX5_drift_22 ?_
      refine va_get (D := D) (ci := 3) (v := .int (v1 0 1)) (C := RX3) (T := TX3) (N := 17) hx hb hW iX3 hown hK hP0 6 rfl rfl 1 (by decide) (hW _ k_89) (fun _ h => h) rfl dX5_drift_25 ?_
      refine lv_if_ne (tgt := 34) hx hb dX5_drift_28 (by decide) (fun c28 => ?_) (fun c28 => ?_)
      · replace hm := tn hm c28
        refine lv_aload_n hx hb dX5_drift_34 rfl (lv_at hl0 0 rfl) ?_
        refine va_get (D := D) (ci := 5) (v := .ref (ad 2 99)) (C := RX5) (T := TX5) (N := 11) hx hb hW iX5 hown hK hP0 0 rfl rfl 2 (by decide) (hW _ k_310) (fun _ h => h) rfl dX5_drift_35 ?_
        refine lv_aload_n hx hb dX5_drift_38 rfl (lv_at hl0 0 rfl) ?_
        refine va_get (D := D) (ci := 5) (v := .ref (ad 1 99)) (C := RX5) (T := TX5) (N := 11) hx hb hW iX5 hown hK hP0 0 rfl rfl 1 (by decide) (hW _ k_309) (fun _ h => h) rfl dX5_drift_39 ?_
        obtain ⟨y42, hy42, hm⟩ := bn hm
        refine cVWv (As := [.ref (ad 1 99)]) (rest := []) (Wn := fun (uu : SV) => wX5 q ad v0 ++ (wX3 q (ad 1) v1 ++ wX3 q (ad 2) uu)) X hP0 hD0 hS0 (fun _ h => Or.inr h) hl0.1 (c_X3_becomes l D q s.heap.size (ad 2) v2 (ad 1) v1 y42 hy42) [18, 19, 20, 21, 22, 23, 24, 25, 26, 27, 28, 29, 6, 7, 8, 9, 10, 11, 12, 13, 14, 15, 16, 17] [0, 1, 2, 3, 4, 5] [0, 1, 2, 3, 4, 5, 18, 19, 20, 21, 22, 23, 24, 25, 26, 27, 28, 29, 6, 7, 8, 9, 10, 11, 12, 13, 14, 15, 16, 17] rfl (Wr := wX5 q ad v0) rfl (by decide) (by decide) (by decide) (by decide) (fun _ => rfl) 18 rfl rfl rfl k_504 mX3_becomes ⟨rfl, rfl⟩ ⟨Nat.le_of_ble_eq_true rfl, Nat.le_of_ble_eq_true rfl⟩ rfl rfl (Nat.le_of_ble_eq_true rfl) dX5_drift_42 ⟨Nat.zero_le _, Nat.zero_le _⟩ (fun H1 locs1 hP hD hS1 => ?_)
        have hP1 : va_P D cls (wX5 q ad v0 ++ (wX3 q (ad 1) v1 ++ wX3 q (ad 2) y42)) H1 := hP
        have hD1 : va_D (va_A (wX5 q ad v0 ++ (wX3 q (ad 1) v1 ++ wX3 q (ad 2) v2)) s.heap.size) (wX5 q ad v0 ++ (wX3 q (ad 1) v1 ++ wX3 q (ad 2) y42)) := hD
        clear hP hD hP0 hD0 hS0
        refine lv_iload_n hx hb dX5_drift_45 rfl (lv_at hl0 1 rfl) ?_
        refine lv_istore (lv' := [(4, .int x1), (0, .ref (ad 0 99)), (1, .int x1), (2, .int x2), (3, .int x3)]) hx hb dX5_drift_46 hl0 (by decide) rfl (fun ls2 hl2 => ?_)
        clear hl0
        refine lv_iconst (v := (0 : Int32)) hx hb dX5_drift_48 (by decide) ?_
        refine lv_istore (lv' := [(5, .int (0 : Int32)), (4, .int x1), (0, .ref (ad 0 99)), (1, .int x1), (2, .int x2), (3, .int x3)]) hx hb dX5_drift_49 hl2 (by decide) rfl (fun ls3 hl3 => ?_)
        clear hl2
        obtain ⟨r51, hr51, hm⟩ := bn hm
        obtain ⟨n51, hn51⟩ := lpC_ex hr51
        have hE51 : ∀ z51 : Int32 × Int32 × SV, m_X5_drift_K51 x3 z51 = some res → ∀ (H : Heap) (locs : List Loc), va_P D cls (wX5 q ad v0 ++ (wX3 q (ad 1) v1 ++ wX3 q (ad 2) z51.2.2)) H → va_D (va_A (wX5 q ad v0 ++ (wX3 q (ad 1) v1 ++ wX3 q (ad 2) v2)) s.heap.size) (wX5 q ad v0 ++ (wX3 q (ad 1) v1 ++ wX3 q (ad 2) z51.2.2)) → va_S (va_A (wX5 q ad v0 ++ (wX3 q (ad 1) v1 ++ wX3 q (ad 2) v2)) s.heap.size) s.heap H locs → ∀ ls : Array Slot, lv_has ls 7 [(0, .ref (ad 0 99)), (3, .int x3)] → W p l e ((headSpec (mw yX5_drift cX5_drift 7 (some .int)) ({ frames := 5, cells := 0, slots := 0, locals := 113 } : Room)).room) s m [.ref (ad 0 99), .int x1, .int x2, .int x3].toArray below meth c H locs 0 0 (MQ below (va_Qi (fun r w => r = res.1 ∧ w = res.2) (bW D q (wX5 q ad v0 ++ (wX3 q (ad 1) v1 ++ wX3 q (ad 2) v2)) s.heap.size (fun (uu : SV) => wX5 q ad v0 ++ (wX3 q (ad 1) v1 ++ wX3 q (ad 2) uu))) (va_A (wX5 q ad v0 ++ (wX3 q (ad 1) v1 ++ wX3 q (ad 2) v2)) s.heap.size)) [.ref (ad 0 99), .int x1, .int x2, .int x3].toArray s 0 0 (va_A (wX5 q ad v0 ++ (wX3 q (ad 1) v1 ++ wX3 q (ad 2) v2)) s.heap.size)) (F0 m 118 ls []) := by
          intro z51 hm H7 locs7 hP7 hD7 hS7 ls6 hl6
          unfold m_X5_drift_K51 at hm
          refine lv_iload_n hx hb dX5_drift_118 rfl (lv_at hl6 1 rfl) ?_
          refine lv_if_ne (tgt := 139) hx hb dX5_drift_119 (by decide) (fun c119 => ?_) (fun c119 => ?_)
          · replace hm := tn hm c119
            refine lv_aload_n hx hb dX5_drift_139 rfl (lv_at hl6 0 rfl) ?_
            refine va_get (D := D) (ci := 5) (v := .ref (ad 2 99)) (C := RX5) (T := TX5) (N := 11) hx hb hW iX5 hown hK hP7 0 rfl rfl 2 (by decide) (hW _ k_310) (fun _ h => h) rfl dX5_drift_140 ?_
            obtain ⟨y143, hy143, hm⟩ := bn hm
            refine cVRi (As := []) (rest := []) X hP7 hl6.1 (c_X3_likeBonds l D q (ad 2) z51.2.2 y143 hy143) [18, 19, 20, 21, 22, 23, 24, 25, 26, 27, 28, 29] rfl 18 rfl rfl rfl k_719 mX3_likeBonds ⟨rfl, rfl⟩ ⟨Nat.le_of_ble_eq_true rfl, Nat.le_of_ble_eq_true rfl⟩ rfl rfl (Nat.le_of_ble_eq_true rfl) dX5_drift_143 ⟨Nat.zero_le _, Nat.zero_le _⟩ ?_
            exact eWi (Wf := fun (uu : SV) => wX5 q ad v0 ++ (wX3 q (ad 1) v1 ++ wX3 q (ad 2) uu)) (u := z51.2.2) X hr hlocks hP7 hD7 hS7 hm dX5_drift_146
          · replace hm := tp hm c119
            refine lv_aload_n hx hb dX5_drift_122 rfl (lv_at hl6 0 rfl) ?_
            refine va_get (D := D) (ci := 5) (v := .ref (ad 2 99)) (C := RX5) (T := TX5) (N := 11) hx hb hW iX5 hown hK hP7 0 rfl rfl 2 (by decide) (hW _ k_310) (fun _ h => h) rfl dX5_drift_123 ?_
            refine lv_aload_n hx hb dX5_drift_126 rfl (lv_at hl6 0 rfl) ?_
            refine va_get (D := D) (ci := 5) (v := .ref (ad 2 99)) (C := RX5) (T := TX5) (N := 11) hx hb hW iX5 hown hK hP7 0 rfl rfl 2 (by decide) (hW _ k_310) (fun _ h => h) rfl dX5_drift_127 ?_
            obtain ⟨y130, hy130, hm⟩ := bn hm
            refine cVRi (As := []) (rest := [.ref (ad 2 99)]) X hP7 hl6.1 (c_X3_everybody l D q (ad 2) z51.2.2 y130 hy130) [18, 19, 20, 21, 22, 23, 24, 25, 26, 27, 28, 29] rfl 18 rfl rfl rfl k_728 mX3_everybody ⟨rfl, rfl⟩ ⟨Nat.le_of_ble_eq_true rfl, Nat.le_of_ble_eq_true rfl⟩ rfl rfl (Nat.le_of_ble_eq_true rfl) dX5_drift_130 ⟨Nat.zero_le _, Nat.zero_le _⟩ ?_
            obtain ⟨y133, hy133, hm⟩ := bn hm
            refine cVRi (As := [.int y130]) (rest := []) X hP7 hl6.1 (c_X3_valueOf l D q (ad 2) z51.2.2 y130 y133 hy133) [18, 19, 20, 21, 22, 23, 24, 25, 26, 27, 28, 29] rfl 18 rfl rfl rfl k_729 mX3_valueOf ⟨rfl, rfl⟩ ⟨Nat.le_of_ble_eq_true rfl, Nat.le_of_ble_eq_true rfl⟩ rfl rfl (Nat.le_of_ble_eq_true rfl) dX5_drift_133 ⟨Nat.zero_le _, Nat.zero_le _⟩ ?_
            refine lv_goto (tgt := 146) hx hb dX5_drift_136 (by decide) ?_
            exact eWi (Wf := fun (uu : SV) => wX5 q ad v0 ++ (wX3 q (ad 1) v1 ++ wX3 q (ad 2) uu)) (u := z51.2.2) X hr hlocks hP7 hD7 hS7 hm dX5_drift_146
        have hL51 : ∀ (n : Nat) (z51 : Int32 × Int32 × SV) (ρ51 : Int32 × Int32 × SV), lpO (m_X5_drift_L51 v1 x2) n z51 = some ρ51 → (m_X5_drift_K51 x3) ρ51 = some res → ∀ (H : Heap) (locs : List Loc), va_P D cls (wX5 q ad v0 ++ (wX3 q (ad 1) v1 ++ wX3 q (ad 2) z51.2.2)) H → va_D (va_A (wX5 q ad v0 ++ (wX3 q (ad 1) v1 ++ wX3 q (ad 2) v2)) s.heap.size) (wX5 q ad v0 ++ (wX3 q (ad 1) v1 ++ wX3 q (ad 2) z51.2.2)) → va_S (va_A (wX5 q ad v0 ++ (wX3 q (ad 1) v1 ++ wX3 q (ad 2) v2)) s.heap.size) s.heap H locs → ∀ ls : Array Slot, lv_has ls 7 [(0, .ref (ad 0 99)), (2, .int x2), (3, .int x3), (4, .int z51.1), (5, .int z51.2.1)] → W p l e ((headSpec (mw yX5_drift cX5_drift 7 (some .int)) ({ frames := 5, cells := 0, slots := 0, locals := 113 } : Room)).room) s m [.ref (ad 0 99), .int x1, .int x2, .int x3].toArray below meth c H locs 0 0 (MQ below (va_Qi (fun r w => r = res.1 ∧ w = res.2) (bW D q (wX5 q ad v0 ++ (wX3 q (ad 1) v1 ++ wX3 q (ad 2) v2)) s.heap.size (fun (uu : SV) => wX5 q ad v0 ++ (wX3 q (ad 1) v1 ++ wX3 q (ad 2) uu))) (va_A (wX5 q ad v0 ++ (wX3 q (ad 1) v1 ++ wX3 q (ad 2) v2)) s.heap.size)) [.ref (ad 0 99), .int x1, .int x2, .int x3].toArray s 0 0 (va_A (wX5 q ad v0 ++ (wX3 q (ad 1) v1 ++ wX3 q (ad 2) v2)) s.heap.size)) (F0 m 51 ls []) := by
          intro n
          induction n with
          | zero => intro _ _ h; cases h
          | succ n ih51 =>
            intro z51 ρ51 hz51 hK51 H5 locs5 hP5 hD5 hS5 ls4 hl4
            obtain ⟨t51, hm, hz51⟩ := bn hz51
            unfold m_X5_drift_L51 at hm
            refine lv_iload hx hb dX5_drift_51 (lv_at hl4 4 rfl) ?_
            refine lv_iload_n hx hb dX5_drift_53 rfl (lv_at hl4 1 rfl) ?_
            refine lv_icmp_ge (tgt := 118) hx hb dX5_drift_54 (by decide) (fun c54 => ?_) (fun c54 => ?_)
            · replace hm := tp hm c54
              cases hm
              cases hz51
              exact hE51 (z51.1, z51.2.1, z51.2.2) hK51 _ _ hP5 hD5 hS5 _ (lv_sub hl4 [0, 2] rfl)
            · replace hm := tn hm c54
              refine lv_iload hx hb dX5_drift_57 (lv_at hl4 3 rfl) ?_
              obtain ⟨y59, hy59, hm⟩ := bn hm
              refine cSRi (As := [.int z51.1]) (rest := []) X hP5 hl4.1 (c_X5_follow l D q z51.1 y59 hy59) [] rfl k_799 mX5_follow ⟨rfl, rfl⟩ ⟨Nat.le_of_ble_eq_true rfl, Nat.le_of_ble_eq_true rfl⟩ rfl rfl (Nat.le_of_ble_eq_true rfl) dX5_drift_59 ⟨Nat.zero_le _, Nat.zero_le _⟩ ?_
              refine lv_istore (lv' := [(4, .int y59), (0, .ref (ad 0 99)), (2, .int x2), (3, .int x3), (5, .int z51.2.1)]) hx hb dX5_drift_62 hl4 (by decide) rfl (fun ls8 hl8 => ?_)
              clear hl4
              refine lv_iload hx hb dX5_drift_64 (lv_at hl8 0 rfl) ?_
              obtain ⟨y66, hy66, hm⟩ := bn hm
              refine cSRi (As := [.int y59]) (rest := []) X hP5 hl8.1 (c_X5_drawn l D q y59 y66 hy66) [] rfl k_803 mX5_drawn ⟨rfl, rfl⟩ ⟨Nat.le_of_ble_eq_true rfl, Nat.le_of_ble_eq_true rfl⟩ rfl rfl (Nat.le_of_ble_eq_true rfl) dX5_drift_66 ⟨Nat.zero_le _, Nat.zero_le _⟩ ?_
              refine lv_aload_n hx hb dX5_drift_69 rfl (lv_at hl8 1 rfl) ?_
              refine va_get (D := D) (ci := 5) (v := .ref (ad 1 99)) (C := RX5) (T := TX5) (N := 11) hx hb hW iX5 hown hK hP5 0 rfl rfl 1 (by decide) (hW _ k_309) (fun _ h => h) rfl dX5_drift_70 ?_
              refine va_get (D := D) (ci := 3) (v := .int (v1 0 0)) (C := RX3) (T := TX3) (N := 17) hx hb hW iX3 hown hK hP5 6 rfl rfl 0 (by decide) (hW _ k_85) (fun _ h => h) rfl dX5_drift_73 ?_
              obtain ⟨y76, hy76, hm⟩ := bn hm
              refine cSRi (As := [.int y66, .int (v1 0 0)]) (rest := []) X hP5 hl8.1 (c_X3_remainder l D q y66 (v1 0 0) y76 hy76) [] rfl k_806 mX3_remainder ⟨rfl, rfl⟩ ⟨Nat.le_of_ble_eq_true rfl, Nat.le_of_ble_eq_true rfl⟩ rfl rfl (Nat.le_of_ble_eq_true rfl) dX5_drift_76 ⟨Nat.zero_le _, Nat.zero_le _⟩ ?_
              refine lv_istore (lv' := [(6, .int y76), (4, .int y59), (0, .ref (ad 0 99)), (2, .int x2), (3, .int x3), (5, .int z51.2.1)]) hx hb dX5_drift_79 hl8 (by decide) rfl (fun ls9 hl9 => ?_)
              clear hl8
              refine lv_iload hx hb dX5_drift_81 (lv_at hl9 1 rfl) ?_
              obtain ⟨y83, hy83, hm⟩ := bn hm
              refine cSRi (As := [.int y59]) (rest := []) X hP5 hl9.1 (c_X5_follow l D q y59 y83 hy83) [] rfl k_799 mX5_follow ⟨rfl, rfl⟩ ⟨Nat.le_of_ble_eq_true rfl, Nat.le_of_ble_eq_true rfl⟩ rfl rfl (Nat.le_of_ble_eq_true rfl) dX5_drift_83 ⟨Nat.zero_le _, Nat.zero_le _⟩ ?_
              refine lv_istore (lv' := [(4, .int y83), (6, .int y76), (0, .ref (ad 0 99)), (2, .int x2), (3, .int x3), (5, .int z51.2.1)]) hx hb dX5_drift_86 hl9 (by decide) rfl (fun ls10 hl10 => ?_)
              clear hl9
              refine lv_aload_n hx hb dX5_drift_88 rfl (lv_at hl10 2 rfl) ?_
              refine va_get (D := D) (ci := 5) (v := .ref (ad 2 99)) (C := RX5) (T := TX5) (N := 11) hx hb hW iX5 hown hK hP5 0 rfl rfl 2 (by decide) (hW _ k_310) (fun _ h => h) rfl dX5_drift_89 ?_
              refine lv_iload hx hb dX5_drift_92 (lv_at hl10 1 rfl) ?_
              refine lv_iload hx hb dX5_drift_94 (lv_at hl10 0 rfl) ?_
              obtain ⟨y96, hy96, hm⟩ := bn hm
              refine cSRi (As := [.int y83]) (rest := [.int y76, .ref (ad 2 99)]) X hP5 hl10.1 (c_X5_drawn l D q y83 y96 hy96) [] rfl k_803 mX5_drawn ⟨rfl, rfl⟩ ⟨Nat.le_of_ble_eq_true rfl, Nat.le_of_ble_eq_true rfl⟩ rfl rfl (Nat.le_of_ble_eq_true rfl) dX5_drift_96 ⟨Nat.zero_le _, Nat.zero_le _⟩ ?_
              refine lv_aload_n hx hb dX5_drift_99 rfl (lv_at hl10 2 rfl) ?_
              refine va_get (D := D) (ci := 5) (v := .ref (ad 1 99)) (C := RX5) (T := TX5) (N := 11) hx hb hW iX5 hown hK hP5 0 rfl rfl 1 (by decide) (hW _ k_309) (fun _ h => h) rfl dX5_drift_100 ?_
              refine va_get (D := D) (ci := 3) (v := .int (v1 0 1)) (C := RX3) (T := TX3) (N := 17) hx hb hW iX3 hown hK hP5 6 rfl rfl 1 (by decide) (hW _ k_89) (fun _ h => h) rfl dX5_drift_103 ?_
              obtain ⟨y106, hy106, hm⟩ := bn hm
              refine cSRi (As := [.int y96, .int (v1 0 1)]) (rest := [.int y76, .ref (ad 2 99)]) X hP5 hl10.1 (c_X3_remainder l D q y96 (v1 0 1) y106 hy106) [] rfl k_806 mX3_remainder ⟨rfl, rfl⟩ ⟨Nat.le_of_ble_eq_true rfl, Nat.le_of_ble_eq_true rfl⟩ rfl rfl (Nat.le_of_ble_eq_true rfl) dX5_drift_106 ⟨Nat.zero_le _, Nat.zero_le _⟩ ?_
              obtain ⟨y109, hy109, hm⟩ := bn hm
              refine cVWv (As := [.int y76, .int y106]) (rest := []) (Wn := fun (uu : SV) => wX5 q ad v0 ++ (wX3 q (ad 1) v1 ++ wX3 q (ad 2) uu)) X hP5 hD5 hS5 (fun _ h => Or.inr h) hl10.1 (c_X3_cover l D q H5.size (ad 2) z51.2.2 y76 y106 y109 hy109) [18, 19, 20, 21, 22, 23, 24, 25, 26, 27, 28, 29] [0, 1, 2, 3, 4, 5, 6, 7, 8, 9, 10, 11, 12, 13, 14, 15, 16, 17] [0, 1, 2, 3, 4, 5, 6, 7, 8, 9, 10, 11, 12, 13, 14, 15, 16, 17, 18, 19, 20, 21, 22, 23, 24, 25, 26, 27, 28, 29] rfl (Wr := wX5 q ad v0 ++ wX3 q (ad 1) v1) rfl (by decide) (by decide) (by decide) (by decide) (fun _ => rfl) 18 rfl rfl rfl k_718 mX3_cover ⟨rfl, rfl⟩ ⟨Nat.le_of_ble_eq_true rfl, Nat.le_of_ble_eq_true rfl⟩ rfl rfl (Nat.le_of_ble_eq_true rfl) dX5_drift_109 ⟨Nat.zero_le _, Nat.zero_le _⟩ (fun H11 locs11 hP hD hS11 => ?_)
              have hP11 : va_P D cls (wX5 q ad v0 ++ (wX3 q (ad 1) v1 ++ wX3 q (ad 2) y109)) H11 := hP
              have hD11 : va_D (va_A (wX5 q ad v0 ++ (wX3 q (ad 1) v1 ++ wX3 q (ad 2) v2)) s.heap.size) (wX5 q ad v0 ++ (wX3 q (ad 1) v1 ++ wX3 q (ad 2) y109)) := hD
              clear hP hD hP5 hD5 hS5
              refine lv_iinc (v := (z51.2.1 + (1 : Int32))) (lv' := [(5, .int (z51.2.1 + (1 : Int32))), (4, .int y83), (6, .int y76), (0, .ref (ad 0 99)), (2, .int x2), (3, .int x3)]) hx hb dX5_drift_112 hl10 (k := 5) rfl rfl (by decide) rfl (fun ls12 hl12 => ?_)
              clear hl10
              refine lv_goto (tgt := 51) hx hb dX5_drift_115 (by decide) ?_
              cases hm
              exact ih51 (y83, (z51.2.1 + (1 : Int32)), y109) ρ51 hz51 hK51 _ _ hP11 hD11 hS11 _ (lv_sub hl12 [3, 4, 5, 1, 0] rfl)
        exact hL51 n51 (x1, (0 : Int32), y42) r51 hn51 hm _ _ hP1 hD1 hS1 _ (lv_sub hl3 [2, 4, 5, 1, 0] rfl)
      · replace hm := tp hm c28
        refine lv_bipush (v := (-2 : Int32)) hx hb dX5_drift_31 (by decide) ?_
        exact eWi (Wf := fun (uu : SV) => wX5 q ad v0 ++ (wX3 q (ad 1) v1 ++ wX3 q (ad 2) uu)) (u := v2) X hr hlocks hP0 hD0 hS0 hm dX5_drift_33
    · replace hm := tp hm c16
      refine lv_iconst (v := (-1 : Int32)) hx hb dX5_drift_19 (by decide) ?_
      exact eWi (Wf := fun (uu : SV) => wX5 q ad v0 ++ (wX3 q (ad 1) v1 ++ wX3 q (ad 2) uu)) (u := v2) X hr hlocks hP0 hD0 hS0 hm dX5_drift_20
noncomputable def m_X5_keep_J25 (v0 : SV) (v1 : SV) (v3 : SV) (v4 : SV) (x1 : Int32) (z25 : Int32) : Option (Int32 × SV × SV × SV) :=
  (if x1 = (0 : Int32) then (m_X3_becomes v3 v1).bind (fun y36 => ck (inB x1 2) (lett (up2 v0 4 ((x1).toNatClampNeg) (vp_nar .boolean (1 : Int32))) (fun v7_ => some (z25, v7_, y36, v4)))) else (if x1 = (1 : Int32) then (m_X3_becomes v4 v1).bind (fun y36 => ck (inB x1 2) (lett (up2 v0 4 ((x1).toNatClampNeg) (vp_nar .boolean (1 : Int32))) (fun v10_ => some (z25, v10_, v3, y36)))) else none))
noncomputable def m_X5_keep (v0 : SV) (v1 : SV) (v3 : SV) (v4 : SV) (x1 : Int32) : Option (Int32 × SV × SV × SV) :=
  (m_X5_within x1 (0 : Int32) (1 : Int32)).bind (fun y3 => (if y3 = 0 then some ((-1 : Int32), v0, v3, v4) else ck (inB x1 2) ((if (v0 4 ((x1).toNatClampNeg)) = 0 then m_X5_keep_J25 v0 v1 v3 v4 x1 (0 : Int32) else m_X5_keep_J25 v0 v1 v3 v4 x1 (1 : Int32)))))
set_option maxHeartbeats 4000000 in
set_option maxRecDepth 100000 in
theorem c_X5_keep (l : Launch) (D : va_G) (q : Nat → ClassId) (sz : Nat) (ad : Nat → Nat → Nat) (v0 : SV) (v1 : SV) (v3 : SV) (v4 : SV) (x1 : Int32) (res : Int32 × SV × SV × SV) (hm : m_X5_keep v0 v1 v3 v4 x1 = some res) : Met l yX5_keep (mw yX5_keep cX5_keep 3 (some .int)) ({ frames := 3, cells := 0, slots := 0, locals := 102 } : Room) (pcW D q (wX5 q ad v0 ++ (wX3 q (ad 1) v1 ++ (wX3 q (ad 3) v3 ++ wX3 q (ad 4) v4))) sz [.ref (ad 0 99), .int x1]) (va_Qi (fun r w => r = res.1 ∧ w = res.2) (bW D q (wX5 q ad v0 ++ (wX3 q (ad 1) v1 ++ (wX3 q (ad 3) v3 ++ wX3 q (ad 4) v4))) sz (fun (uu : SV × SV × SV) => wX5 q ad uu.1 ++ (wX3 q (ad 1) v1 ++ (wX3 q (ad 3) uu.2.1 ++ wX3 q (ad 4) uu.2.2)))) (va_A (wX5 q ad v0 ++ (wX3 q (ad 1) v1 ++ (wX3 q (ad 3) v3 ++ wX3 q (ad 4) v4))) sz)) 0 0 (va_A (wX5 q ad v0 ++ (wX3 q (ad 1) v1 ++ (wX3 q (ad 3) v3 ++ wX3 q (ad 4) v4))) sz) := by
  refine Met.ofW (cc := cX5_keep) (maxL := 3) (ret := (some .int)) (by decide) rfl ?_
  intro p e s m args below meth c s₁ B hml hv
  obtain ⟨rfl, hsz, hP0, hK, hD0⟩ := hv
  have hx := B.exec
  have hb := B.bytes
  have hr := B.returns
  have hW := mw_ws (atoms_spec (ws := mw yX5_keep cX5_keep 3 (some .int)) B.pre)
  have hown : s.vm.findClass RX5 = some m.cls := findClass_of_methodNamed B.named
  have hlocks := B.notSynchronized
  have X : Cx p s m [.ref (ad 0 99), .int x1].toArray c cX5_keep 3 RX5 D q := ⟨hx, hb, hml, hown, hW, hK⟩
  subst hsz
  replace hD0 := hD0.self (sz := s.heap.size)
  have hS0 : va_S (va_A (wX5 q ad v0 ++ (wX3 q (ad 1) v1 ++ (wX3 q (ad 3) v3 ++ wX3 q (ad 4) v4))) s.heap.size) s.heap s.heap [] := va_S.rf
  have hl0 := lv_entry ([.ref (ad 0 99), .int x1]) (n := 3) (Nat.le_of_ble_eq_true rfl)
  rw [lg_entry_eq]
  generalize (lg_sl ([.ref (ad 0 99), .int x1]) ++ List.replicate (3 - (lg_sl ([.ref (ad 0 99), .int x1])).length) Slot.unset).toArray = ls0 at hl0 ⊢
  have hl0 : lv_has ls0 3 [(0, .ref (ad 0 99)), (1, .int x1)] := hl0
  unfold m_X5_keep at hm
  refine lv_iload_n hx hb dX5_keep_0 rfl (lv_at hl0 1 rfl) ?_
  refine lv_iconst (v := (0 : Int32)) hx hb dX5_keep_1 (by decide) ?_
  refine lv_iconst (v := (1 : Int32)) hx hb dX5_keep_2 (by decide) ?_
  obtain ⟨y3, hy3, hm⟩ := bn hm
  refine cSRi (As := [.int x1, .int (0 : Int32), .int (1 : Int32)]) (rest := []) X hP0 hl0.1 (c_X5_within l D q x1 (0 : Int32) (1 : Int32) y3 hy3) [] rfl k_346 mX5_within ⟨rfl, rfl⟩ ⟨Nat.le_of_ble_eq_true rfl, Nat.le_of_ble_eq_true rfl⟩ rfl rfl (Nat.le_of_ble_eq_true rfl) dX5_keep_3 ⟨Nat.zero_le _, Nat.zero_le _⟩ ?_
  refine lv_if_ne (tgt := 11) hx hb dX5_keep_6 (by decide) (fun c6 => ?_) (fun c6 => ?_)
  · replace hm := tn hm c6
    refine lv_aload_n hx hb dX5_keep_11 rfl (lv_at hl0 0 rfl) ?_
    refine va_get (D := D) (ci := 5) (v := .ref (ad 0 4)) (C := RX5) (T := TX5) (N := 11) hx hb hW iX5 hown hK hP0 0 rfl rfl 4 (by decide) (hW _ k_312) (fun _ h => h) rfl dX5_keep_12 ?_
    refine lv_iload_n hx hb dX5_keep_15 rfl (lv_at hl0 1 rfl) ?_
    obtain ⟨h1, hm⟩ := ckd hm
    refine va_zald (f := (v0 4)) hx hb hK hP0 2 2 rfl rfl (inB_vp h1) dX5_keep_16 ?_
    have hJ25 : ∀ z25 : Int32, m_X5_keep_J25 v0 v1 v3 v4 x1 z25 = some res → ∀ (H : Heap) (locs : List Loc), va_P D cls (wX5 q ad v0 ++ (wX3 q (ad 1) v1 ++ (wX3 q (ad 3) v3 ++ wX3 q (ad 4) v4))) H → va_D (va_A (wX5 q ad v0 ++ (wX3 q (ad 1) v1 ++ (wX3 q (ad 3) v3 ++ wX3 q (ad 4) v4))) s.heap.size) (wX5 q ad v0 ++ (wX3 q (ad 1) v1 ++ (wX3 q (ad 3) v3 ++ wX3 q (ad 4) v4))) → va_S (va_A (wX5 q ad v0 ++ (wX3 q (ad 1) v1 ++ (wX3 q (ad 3) v3 ++ wX3 q (ad 4) v4))) s.heap.size) s.heap H locs → ∀ ls : Array Slot, lv_has ls 3 [(0, .ref (ad 0 99)), (1, .int x1)] → W p l e ((headSpec (mw yX5_keep cX5_keep 3 (some .int)) ({ frames := 3, cells := 0, slots := 0, locals := 102 } : Room)).room) s m [.ref (ad 0 99), .int x1].toArray below meth c H locs 0 0 (MQ below (va_Qi (fun r w => r = res.1 ∧ w = res.2) (bW D q (wX5 q ad v0 ++ (wX3 q (ad 1) v1 ++ (wX3 q (ad 3) v3 ++ wX3 q (ad 4) v4))) s.heap.size (fun (uu : SV × SV × SV) => wX5 q ad uu.1 ++ (wX3 q (ad 1) v1 ++ (wX3 q (ad 3) uu.2.1 ++ wX3 q (ad 4) uu.2.2)))) (va_A (wX5 q ad v0 ++ (wX3 q (ad 1) v1 ++ (wX3 q (ad 3) v3 ++ wX3 q (ad 4) v4))) s.heap.size)) [.ref (ad 0 99), .int x1].toArray s 0 0 (va_A (wX5 q ad v0 ++ (wX3 q (ad 1) v1 ++ (wX3 q (ad 3) v3 ++ wX3 q (ad 4) v4))) s.heap.size)) (F0 m 25 ls [.int z25]) := by
      intro z25 hm H3 locs3 hP3 hD3 hS3 ls2 hl2
      unfold m_X5_keep_J25 at hm
      refine lv_istore_n (lv' := [(2, .int z25), (0, .ref (ad 0 99)), (1, .int x1)]) hx hb dX5_keep_25 rfl hl2 (by decide) rfl (fun ls4 hl4 => ?_)
      clear hl2
      refine lv_aload_n hx hb dX5_keep_26 rfl (lv_at hl4 1 rfl) ?_
      refine va_get (D := D) (ci := 5) (v := .ref (ad 0 3)) (C := RX5) (T := TX5) (N := 11) hx hb hW iX5 hown hK hP3 0 rfl rfl 3 (by decide) (hW _ k_311) (fun _ h => h) rfl dX5_keep_27 ?_
      refine lv_iload_n hx hb dX5_keep_30 rfl (lv_at hl4 2 rfl) ?_
      by_cases c31_0 : x1 = (0 : Int32)
      · replace hm := tp hm c31_0
        refine r_aald (bb := (ad 3 99)) hx hb hK hP3 1 3 rfl rfl (inB_vp (by rw [c31_0]; decide)) (by rw [c31_0]; rfl) dX5_keep_31 ?_
        refine lv_aload_n hx hb dX5_keep_32 rfl (lv_at hl4 1 rfl) ?_
        refine va_get (D := D) (ci := 5) (v := .ref (ad 1 99)) (C := RX5) (T := TX5) (N := 11) hx hb hW iX5 hown hK hP3 0 rfl rfl 1 (by decide) (hW _ k_309) (fun _ h => h) rfl dX5_keep_33 ?_
        obtain ⟨y36, hy36, hm⟩ := bn hm
        refine cVWv (As := [.ref (ad 1 99)]) (rest := []) (Wn := fun (uu : SV) => wX5 q ad v0 ++ (wX3 q (ad 1) v1 ++ (wX3 q (ad 3) uu ++ wX3 q (ad 4) v4))) X hP3 hD3 hS3 (fun _ h => Or.inr h) hl4.1 (c_X3_becomes l D q H3.size (ad 3) v3 (ad 1) v1 y36 hy36) [18, 19, 20, 21, 22, 23, 24, 25, 26, 27, 28, 29, 6, 7, 8, 9, 10, 11, 12, 13, 14, 15, 16, 17] [0, 1, 2, 3, 4, 5, 30, 31, 32, 33, 34, 35, 36, 37, 38, 39, 40, 41] [0, 1, 2, 3, 4, 5, 30, 31, 32, 33, 34, 35, 36, 37, 38, 39, 40, 41, 18, 19, 20, 21, 22, 23, 24, 25, 26, 27, 28, 29, 6, 7, 8, 9, 10, 11, 12, 13, 14, 15, 16, 17] rfl (Wr := wX5 q ad v0 ++ wX3 q (ad 4) v4) rfl (by decide) (by decide) (by decide) (by decide) (fun _ => rfl) 18 rfl rfl rfl k_504 mX3_becomes ⟨rfl, rfl⟩ ⟨Nat.le_of_ble_eq_true rfl, Nat.le_of_ble_eq_true rfl⟩ rfl rfl (Nat.le_of_ble_eq_true rfl) dX5_keep_36 ⟨Nat.zero_le _, Nat.zero_le _⟩ (fun H5 locs5 hP hD hS5 => ?_)
        have hP5 : va_P D cls (wX5 q ad v0 ++ (wX3 q (ad 1) v1 ++ (wX3 q (ad 3) y36 ++ wX3 q (ad 4) v4))) H5 := hP
        have hD5 : va_D (va_A (wX5 q ad v0 ++ (wX3 q (ad 1) v1 ++ (wX3 q (ad 3) v3 ++ wX3 q (ad 4) v4))) s.heap.size) (wX5 q ad v0 ++ (wX3 q (ad 1) v1 ++ (wX3 q (ad 3) y36 ++ wX3 q (ad 4) v4))) := hD
        clear hP hD hP3 hD3 hS3
        refine lv_aload_n hx hb dX5_keep_39 rfl (lv_at hl4 1 rfl) ?_
        refine va_get (D := D) (ci := 5) (v := .ref (ad 0 4)) (C := RX5) (T := TX5) (N := 11) hx hb hW iX5 hown hK hP5 0 rfl rfl 4 (by decide) (hW _ k_312) (fun _ h => h) rfl dX5_keep_40 ?_
        refine lv_iload_n hx hb dX5_keep_43 rfl (lv_at hl4 2 rfl) ?_
        refine lv_iconst (v := (1 : Int32)) hx hb dX5_keep_44 (by decide) ?_
        obtain ⟨h6, hm⟩ := ckd hm
        refine va_zast (f := (v0 4)) hx hb hK hP5 hD5 hS5 2 2 rfl rfl (inB_vp h6) dX5_keep_45 (fun H7 locs7 hP hD hS7 => ?_)
        obtain ⟨v7_, e7, hm⟩ := ltd hm
        have hP7 : va_P D cls (wX5 q ad v7_ ++ (wX3 q (ad 1) v1 ++ (wX3 q (ad 3) y36 ++ wX3 q (ad 4) v4))) H7 := by rw [e7]; exact hP
        have hD7 : va_D (va_A (wX5 q ad v0 ++ (wX3 q (ad 1) v1 ++ (wX3 q (ad 3) v3 ++ wX3 q (ad 4) v4))) s.heap.size) (wX5 q ad v7_ ++ (wX3 q (ad 1) v1 ++ (wX3 q (ad 3) y36 ++ wX3 q (ad 4) v4))) := by rw [e7]; exact hD
        clear hP hD hP5 hD5 hS5
        refine lv_iload_n hx hb dX5_keep_46 rfl (lv_at hl4 0 rfl) ?_
        exact eWi (Wf := fun (uu : SV × SV × SV) => wX5 q ad uu.1 ++ (wX3 q (ad 1) v1 ++ (wX3 q (ad 3) uu.2.1 ++ wX3 q (ad 4) uu.2.2))) (u := (v7_, y36, v4)) X hr hlocks hP7 hD7 hS7 hm dX5_keep_47
      · replace hm := tn hm c31_0
        by_cases c31_1 : x1 = (1 : Int32)
        · replace hm := tp hm c31_1
          refine r_aald (bb := (ad 4 99)) hx hb hK hP3 1 3 rfl rfl (inB_vp (by rw [c31_1]; decide)) (by rw [c31_1]; rfl) dX5_keep_31 ?_
          refine lv_aload_n hx hb dX5_keep_32 rfl (lv_at hl4 1 rfl) ?_
          refine va_get (D := D) (ci := 5) (v := .ref (ad 1 99)) (C := RX5) (T := TX5) (N := 11) hx hb hW iX5 hown hK hP3 0 rfl rfl 1 (by decide) (hW _ k_309) (fun _ h => h) rfl dX5_keep_33 ?_
          obtain ⟨y36, hy36, hm⟩ := bn hm
          refine cVWv (As := [.ref (ad 1 99)]) (rest := []) (Wn := fun (uu : SV) => wX5 q ad v0 ++ (wX3 q (ad 1) v1 ++ (wX3 q (ad 3) v3 ++ wX3 q (ad 4) uu))) X hP3 hD3 hS3 (fun _ h => Or.inr h) hl4.1 (c_X3_becomes l D q H3.size (ad 4) v4 (ad 1) v1 y36 hy36) [30, 31, 32, 33, 34, 35, 36, 37, 38, 39, 40, 41, 6, 7, 8, 9, 10, 11, 12, 13, 14, 15, 16, 17] [0, 1, 2, 3, 4, 5, 18, 19, 20, 21, 22, 23, 24, 25, 26, 27, 28, 29] [0, 1, 2, 3, 4, 5, 30, 31, 32, 33, 34, 35, 36, 37, 38, 39, 40, 41, 6, 7, 8, 9, 10, 11, 12, 13, 14, 15, 16, 17, 18, 19, 20, 21, 22, 23, 24, 25, 26, 27, 28, 29] rfl (Wr := wX5 q ad v0 ++ wX3 q (ad 3) v3) rfl (by decide) (by decide) (by decide) (by decide) (fun _ => rfl) 30 rfl rfl rfl k_504 mX3_becomes ⟨rfl, rfl⟩ ⟨Nat.le_of_ble_eq_true rfl, Nat.le_of_ble_eq_true rfl⟩ rfl rfl (Nat.le_of_ble_eq_true rfl) dX5_keep_36 ⟨Nat.zero_le _, Nat.zero_le _⟩ (fun H8 locs8 hP hD hS8 => ?_)
          have hP8 : va_P D cls (wX5 q ad v0 ++ (wX3 q (ad 1) v1 ++ (wX3 q (ad 3) v3 ++ wX3 q (ad 4) y36))) H8 := hP
          have hD8 : va_D (va_A (wX5 q ad v0 ++ (wX3 q (ad 1) v1 ++ (wX3 q (ad 3) v3 ++ wX3 q (ad 4) v4))) s.heap.size) (wX5 q ad v0 ++ (wX3 q (ad 1) v1 ++ (wX3 q (ad 3) v3 ++ wX3 q (ad 4) y36))) := hD
          clear hP hD hP3 hD3 hS3
          refine lv_aload_n hx hb dX5_keep_39 rfl (lv_at hl4 1 rfl) ?_
          refine va_get (D := D) (ci := 5) (v := .ref (ad 0 4)) (C := RX5) (T := TX5) (N := 11) hx hb hW iX5 hown hK hP8 0 rfl rfl 4 (by decide) (hW _ k_312) (fun _ h => h) rfl dX5_keep_40 ?_
          refine lv_iload_n hx hb dX5_keep_43 rfl (lv_at hl4 2 rfl) ?_
          refine lv_iconst (v := (1 : Int32)) hx hb dX5_keep_44 (by decide) ?_
          obtain ⟨h9, hm⟩ := ckd hm
          refine va_zast (f := (v0 4)) hx hb hK hP8 hD8 hS8 2 2 rfl rfl (inB_vp h9) dX5_keep_45 (fun H10 locs10 hP hD hS10 => ?_)
          obtain ⟨v10_, e10, hm⟩ := ltd hm
          have hP10 : va_P D cls (wX5 q ad v10_ ++ (wX3 q (ad 1) v1 ++ (wX3 q (ad 3) v3 ++ wX3 q (ad 4) y36))) H10 := by rw [e10]; exact hP
          have hD10 : va_D (va_A (wX5 q ad v0 ++ (wX3 q (ad 1) v1 ++ (wX3 q (ad 3) v3 ++ wX3 q (ad 4) v4))) s.heap.size) (wX5 q ad v10_ ++ (wX3 q (ad 1) v1 ++ (wX3 q (ad 3) v3 ++ wX3 q (ad 4) y36))) := by rw [e10]; exact hD
          clear hP hD hP8 hD8 hS8
          refine lv_iload_n hx hb dX5_keep_46 rfl (lv_at hl4 0 rfl) ?_
          exact eWi (Wf := fun (uu : SV × SV × SV) => wX5 q ad uu.1 ++ (wX3 q (ad 1) v1 ++ (wX3 q (ad 3) uu.2.1 ++ wX3 q (ad 4) uu.2.2))) (u := (v10_, v3, y36)) X hr hlocks hP10 hD10 hS10 hm dX5_keep_47
        · replace hm := tn hm c31_1
          cases hm
    refine lv_if_eq (tgt := 24) hx hb dX5_keep_17 (by decide) (fun c17 => ?_) (fun c17 => ?_)
    · replace hm := tp hm c17
      refine lv_iconst (v := (0 : Int32)) hx hb dX5_keep_24 (by decide) ?_
      exact hJ25 (0 : Int32) hm _ _ hP0 hD0 hS0 _ (lv_sub hl0 [0, 1] rfl)
    · replace hm := tn hm c17
      refine lv_iconst (v := (1 : Int32)) hx hb dX5_keep_20 (by decide) ?_
      refine lv_goto (tgt := 25) hx hb dX5_keep_21 (by decide) ?_
      exact hJ25 (1 : Int32) hm _ _ hP0 hD0 hS0 _ (lv_sub hl0 [0, 1] rfl)
  · replace hm := tp hm c6
    refine lv_iconst (v := (-1 : Int32)) hx hb dX5_keep_9 (by decide) ?_
    exact eWi (Wf := fun (uu : SV × SV × SV) => wX5 q ad uu.1 ++ (wX3 q (ad 1) v1 ++ (wX3 q (ad 3) uu.2.1 ++ wX3 q (ad 4) uu.2.2))) (u := (v0, v3, v4)) X hr hlocks hP0 hD0 hS0 hm dX5_keep_10
noncomputable def m_X5_back (v0 : SV) (v1 : SV) (v3 : SV) (v4 : SV) (x1 : Int32) : Option (Int32 × SV) :=
  (m_X5_within x1 (0 : Int32) (1 : Int32)).bind (fun y3 => (if y3 = 0 then some ((-1 : Int32), v1) else ck (inB x1 2) ((if (v0 4 ((x1).toNatClampNeg)) = 0 then some ((-2 : Int32), v1) else (if x1 = (0 : Int32) then (m_X3_becomes v1 v3).bind (fun y33 => some ((y33 0 4), y33)) else (if x1 = (1 : Int32) then (m_X3_becomes v1 v4).bind (fun y33 => some ((y33 0 4), y33)) else none))))))
set_option maxHeartbeats 4000000 in
set_option maxRecDepth 100000 in
theorem c_X5_back (l : Launch) (D : va_G) (q : Nat → ClassId) (sz : Nat) (ad : Nat → Nat → Nat) (v0 : SV) (v1 : SV) (v3 : SV) (v4 : SV) (x1 : Int32) (res : Int32 × SV) (hm : m_X5_back v0 v1 v3 v4 x1 = some res) : Met l yX5_back (mw yX5_back cX5_back 2 (some .int)) ({ frames := 3, cells := 0, slots := 0, locals := 102 } : Room) (pcW D q (wX5 q ad v0 ++ (wX3 q (ad 1) v1 ++ (wX3 q (ad 3) v3 ++ wX3 q (ad 4) v4))) sz [.ref (ad 0 99), .int x1]) (va_Qi (fun r w => r = res.1 ∧ w = res.2) (bW D q (wX5 q ad v0 ++ (wX3 q (ad 1) v1 ++ (wX3 q (ad 3) v3 ++ wX3 q (ad 4) v4))) sz (fun (uu : SV) => wX5 q ad v0 ++ (wX3 q (ad 1) uu ++ (wX3 q (ad 3) v3 ++ wX3 q (ad 4) v4)))) (va_A (wX5 q ad v0 ++ (wX3 q (ad 1) v1 ++ (wX3 q (ad 3) v3 ++ wX3 q (ad 4) v4))) sz)) 0 0 (va_A (wX5 q ad v0 ++ (wX3 q (ad 1) v1 ++ (wX3 q (ad 3) v3 ++ wX3 q (ad 4) v4))) sz) := by
  refine Met.ofW (cc := cX5_back) (maxL := 2) (ret := (some .int)) (by decide) rfl ?_
  intro p e s m args below meth c s₁ B hml hv
  obtain ⟨rfl, hsz, hP0, hK, hD0⟩ := hv
  have hx := B.exec
  have hb := B.bytes
  have hr := B.returns
  have hW := mw_ws (atoms_spec (ws := mw yX5_back cX5_back 2 (some .int)) B.pre)
  have hown : s.vm.findClass RX5 = some m.cls := findClass_of_methodNamed B.named
  have hlocks := B.notSynchronized
  have X : Cx p s m [.ref (ad 0 99), .int x1].toArray c cX5_back 2 RX5 D q := ⟨hx, hb, hml, hown, hW, hK⟩
  subst hsz
  replace hD0 := hD0.self (sz := s.heap.size)
  have hS0 : va_S (va_A (wX5 q ad v0 ++ (wX3 q (ad 1) v1 ++ (wX3 q (ad 3) v3 ++ wX3 q (ad 4) v4))) s.heap.size) s.heap s.heap [] := va_S.rf
  have hl0 := lv_entry ([.ref (ad 0 99), .int x1]) (n := 2) (Nat.le_of_ble_eq_true rfl)
  rw [lg_entry_eq]
  generalize (lg_sl ([.ref (ad 0 99), .int x1]) ++ List.replicate (2 - (lg_sl ([.ref (ad 0 99), .int x1])).length) Slot.unset).toArray = ls0 at hl0 ⊢
  have hl0 : lv_has ls0 2 [(0, .ref (ad 0 99)), (1, .int x1)] := hl0
  unfold m_X5_back at hm
  refine lv_iload_n hx hb dX5_back_0 rfl (lv_at hl0 1 rfl) ?_
  refine lv_iconst (v := (0 : Int32)) hx hb dX5_back_1 (by decide) ?_
  refine lv_iconst (v := (1 : Int32)) hx hb dX5_back_2 (by decide) ?_
  obtain ⟨y3, hy3, hm⟩ := bn hm
  refine cSRi (As := [.int x1, .int (0 : Int32), .int (1 : Int32)]) (rest := []) X hP0 hl0.1 (c_X5_within l D q x1 (0 : Int32) (1 : Int32) y3 hy3) [] rfl k_346 mX5_within ⟨rfl, rfl⟩ ⟨Nat.le_of_ble_eq_true rfl, Nat.le_of_ble_eq_true rfl⟩ rfl rfl (Nat.le_of_ble_eq_true rfl) dX5_back_3 ⟨Nat.zero_le _, Nat.zero_le _⟩ ?_
  refine lv_if_ne (tgt := 11) hx hb dX5_back_6 (by decide) (fun c6 => ?_) (fun c6 => ?_)
  · replace hm := tn hm c6
    refine lv_aload_n hx hb dX5_back_11 rfl (lv_at hl0 0 rfl) ?_
    refine va_get (D := D) (ci := 5) (v := .ref (ad 0 4)) (C := RX5) (T := TX5) (N := 11) hx hb hW iX5 hown hK hP0 0 rfl rfl 4 (by decide) (hW _ k_312) (fun _ h => h) rfl dX5_back_12 ?_
    refine lv_iload_n hx hb dX5_back_15 rfl (lv_at hl0 1 rfl) ?_
    obtain ⟨h1, hm⟩ := ckd hm
    refine va_zald (f := (v0 4)) hx hb hK hP0 2 2 rfl rfl (inB_vp h1) dX5_back_16 ?_
    refine lv_if_ne (tgt := 23) hx hb dX5_back_17 (by decide) (fun c17 => ?_) (fun c17 => ?_)
    · replace hm := tn hm c17
      refine lv_aload_n hx hb dX5_back_23 rfl (lv_at hl0 0 rfl) ?_
      refine va_get (D := D) (ci := 5) (v := .ref (ad 1 99)) (C := RX5) (T := TX5) (N := 11) hx hb hW iX5 hown hK hP0 0 rfl rfl 1 (by decide) (hW _ k_309) (fun _ h => h) rfl dX5_back_24 ?_
      refine lv_aload_n hx hb dX5_back_27 rfl (lv_at hl0 0 rfl) ?_
      refine va_get (D := D) (ci := 5) (v := .ref (ad 0 3)) (C := RX5) (T := TX5) (N := 11) hx hb hW iX5 hown hK hP0 0 rfl rfl 3 (by decide) (hW _ k_311) (fun _ h => h) rfl dX5_back_28 ?_
      refine lv_iload_n hx hb dX5_back_31 rfl (lv_at hl0 1 rfl) ?_
      by_cases c32_0 : x1 = (0 : Int32)
      · replace hm := tp hm c32_0
        refine r_aald (bb := (ad 3 99)) hx hb hK hP0 1 3 rfl rfl (inB_vp (by rw [c32_0]; decide)) (by rw [c32_0]; rfl) dX5_back_32 ?_
        obtain ⟨y33, hy33, hm⟩ := bn hm
        refine cVWv (As := [.ref (ad 3 99)]) (rest := []) (Wn := fun (uu : SV) => wX5 q ad v0 ++ (wX3 q (ad 1) uu ++ (wX3 q (ad 3) v3 ++ wX3 q (ad 4) v4))) X hP0 hD0 hS0 (fun _ h => Or.inr h) hl0.1 (c_X3_becomes l D q s.heap.size (ad 1) v1 (ad 3) v3 y33 hy33) [6, 7, 8, 9, 10, 11, 12, 13, 14, 15, 16, 17, 18, 19, 20, 21, 22, 23, 24, 25, 26, 27, 28, 29] [0, 1, 2, 3, 4, 5, 30, 31, 32, 33, 34, 35, 36, 37, 38, 39, 40, 41] [0, 1, 2, 3, 4, 5, 18, 19, 20, 21, 22, 23, 24, 25, 26, 27, 28, 29, 30, 31, 32, 33, 34, 35, 36, 37, 38, 39, 40, 41, 6, 7, 8, 9, 10, 11, 12, 13, 14, 15, 16, 17] rfl (Wr := wX5 q ad v0 ++ wX3 q (ad 4) v4) rfl (by decide) (by decide) (by decide) (by decide) (fun _ => rfl) 6 rfl rfl rfl k_504 mX3_becomes ⟨rfl, rfl⟩ ⟨Nat.le_of_ble_eq_true rfl, Nat.le_of_ble_eq_true rfl⟩ rfl rfl (Nat.le_of_ble_eq_true rfl) dX5_back_33 ⟨Nat.zero_le _, Nat.zero_le _⟩ (fun H2 locs2 hP hD hS2 => ?_)
        have hP2 : va_P D cls (wX5 q ad v0 ++ (wX3 q (ad 1) y33 ++ (wX3 q (ad 3) v3 ++ wX3 q (ad 4) v4))) H2 := hP
        have hD2 : va_D (va_A (wX5 q ad v0 ++ (wX3 q (ad 1) v1 ++ (wX3 q (ad 3) v3 ++ wX3 q (ad 4) v4))) s.heap.size) (wX5 q ad v0 ++ (wX3 q (ad 1) y33 ++ (wX3 q (ad 3) v3 ++ wX3 q (ad 4) v4))) := hD
        clear hP hD hP0 hD0 hS0
        refine lv_aload_n hx hb dX5_back_36 rfl (lv_at hl0 0 rfl) ?_
        refine va_get (D := D) (ci := 5) (v := .ref (ad 1 99)) (C := RX5) (T := TX5) (N := 11) hx hb hW iX5 hown hK hP2 0 rfl rfl 1 (by decide) (hW _ k_309) (fun _ h => h) rfl dX5_back_37 ?_
        refine va_get (D := D) (ci := 3) (v := .int (y33 0 4)) (C := RX3) (T := TX3) (N := 17) hx hb hW iX3 hown hK hP2 6 rfl rfl 4 (by decide) (hW _ k_98) (fun _ h => h) rfl dX5_back_40 ?_
        exact eWi (Wf := fun (uu : SV) => wX5 q ad v0 ++ (wX3 q (ad 1) uu ++ (wX3 q (ad 3) v3 ++ wX3 q (ad 4) v4))) (u := y33) X hr hlocks hP2 hD2 hS2 hm dX5_back_43
      · replace hm := tn hm c32_0
        by_cases c32_1 : x1 = (1 : Int32)
        · replace hm := tp hm c32_1
          refine r_aald (bb := (ad 4 99)) hx hb hK hP0 1 3 rfl rfl (inB_vp (by rw [c32_1]; decide)) (by rw [c32_1]; rfl) dX5_back_32 ?_
          obtain ⟨y33, hy33, hm⟩ := bn hm
          refine cVWv (As := [.ref (ad 4 99)]) (rest := []) (Wn := fun (uu : SV) => wX5 q ad v0 ++ (wX3 q (ad 1) uu ++ (wX3 q (ad 3) v3 ++ wX3 q (ad 4) v4))) X hP0 hD0 hS0 (fun _ h => Or.inr h) hl0.1 (c_X3_becomes l D q s.heap.size (ad 1) v1 (ad 4) v4 y33 hy33) [6, 7, 8, 9, 10, 11, 12, 13, 14, 15, 16, 17, 30, 31, 32, 33, 34, 35, 36, 37, 38, 39, 40, 41] [0, 1, 2, 3, 4, 5, 18, 19, 20, 21, 22, 23, 24, 25, 26, 27, 28, 29] [0, 1, 2, 3, 4, 5, 18, 19, 20, 21, 22, 23, 24, 25, 26, 27, 28, 29, 6, 7, 8, 9, 10, 11, 12, 13, 14, 15, 16, 17, 30, 31, 32, 33, 34, 35, 36, 37, 38, 39, 40, 41] rfl (Wr := wX5 q ad v0 ++ wX3 q (ad 3) v3) rfl (by decide) (by decide) (by decide) (by decide) (fun _ => rfl) 6 rfl rfl rfl k_504 mX3_becomes ⟨rfl, rfl⟩ ⟨Nat.le_of_ble_eq_true rfl, Nat.le_of_ble_eq_true rfl⟩ rfl rfl (Nat.le_of_ble_eq_true rfl) dX5_back_33 ⟨Nat.zero_le _, Nat.zero_le _⟩ (fun H3 locs3 hP hD hS3 => ?_)
          have hP3 : va_P D cls (wX5 q ad v0 ++ (wX3 q (ad 1) y33 ++ (wX3 q (ad 3) v3 ++ wX3 q (ad 4) v4))) H3 := hP
          have hD3 : va_D (va_A (wX5 q ad v0 ++ (wX3 q (ad 1) v1 ++ (wX3 q (ad 3) v3 ++ wX3 q (ad 4) v4))) s.heap.size) (wX5 q ad v0 ++ (wX3 q (ad 1) y33 ++ (wX3 q (ad 3) v3 ++ wX3 q (ad 4) v4))) := hD
          clear hP hD hP0 hD0 hS0
          refine lv_aload_n hx hb dX5_back_36 rfl (lv_at hl0 0 rfl) ?_
          refine va_get (D := D) (ci := 5) (v := .ref (ad 1 99)) (C := RX5) (T := TX5) (N := 11) hx hb hW iX5 hown hK hP3 0 rfl rfl 1 (by decide) (hW _ k_309) (fun _ h => h) rfl dX5_back_37 ?_
          refine va_get (D := D) (ci := 3) (v := .int (y33 0 4)) (C := RX3) (T := TX3) (N := 17) hx hb hW iX3 hown hK hP3 6 rfl rfl 4 (by decide) (hW _ k_98) (fun _ h => h) rfl dX5_back_40 ?_
          exact eWi (Wf := fun (uu : SV) => wX5 q ad v0 ++ (wX3 q (ad 1) uu ++ (wX3 q (ad 3) v3 ++ wX3 q (ad 4) v4))) (u := y33) X hr hlocks hP3 hD3 hS3 hm dX5_back_43
        · replace hm := tn hm c32_1
          cases hm
    · replace hm := tp hm c17
      refine lv_bipush (v := (-2 : Int32)) hx hb dX5_back_20 (by decide) ?_
      exact eWi (Wf := fun (uu : SV) => wX5 q ad v0 ++ (wX3 q (ad 1) uu ++ (wX3 q (ad 3) v3 ++ wX3 q (ad 4) v4))) (u := v1) X hr hlocks hP0 hD0 hS0 hm dX5_back_22
  · replace hm := tp hm c6
    refine lv_iconst (v := (-1 : Int32)) hx hb dX5_back_9 (by decide) ?_
    exact eWi (Wf := fun (uu : SV) => wX5 q ad v0 ++ (wX3 q (ad 1) uu ++ (wX3 q (ad 3) v3 ++ wX3 q (ad 4) v4))) (u := v1) X hr hlocks hP0 hD0 hS0 hm dX5_back_10
noncomputable def m_X5_sheet (v0 : SV) (v9 : SV) (v10 : SV) (v11 : SV) (v12 : SV) (x1 : Int32) (x2 : Int32) (x3 : Int32) : Option (Int32 × SV × SV × SV × SV) :=
  (m_X5_within x1 (0 : Int32) (3 : Int32)).bind (fun y3 => (if y3 = 0 then some ((-1 : Int32), v9, v10, v11, v12) else (m_X5_within x2 (0 : Int32) (2 : Int32)).bind (fun y12 => (if y12 = 0 then some ((-1 : Int32), v9, v10, v11, v12) else (if x3 ≤ (40 : Int32) then (if 0 ≤ x3 then (if x1 = (0 : Int32) then (m_X2_renew v9 x2 x3).bind (fun y41 => some ((1 : Int32), y41, v10, v11, v12)) else (if x1 = (1 : Int32) then (m_X2_renew v10 x2 x3).bind (fun y41 => some ((1 : Int32), v9, y41, v11, v12)) else (if x1 = (2 : Int32) then (m_X2_renew v11 x2 x3).bind (fun y41 => some ((1 : Int32), v9, v10, y41, v12)) else (if x1 = (3 : Int32) then (m_X2_renew v12 x2 x3).bind (fun y41 => some ((1 : Int32), v9, v10, v11, y41)) else none)))) else some ((-14 : Int32), v9, v10, v11, v12)) else some ((-1 : Int32), v9, v10, v11, v12))))))
set_option maxHeartbeats 4000000 in
set_option maxRecDepth 100000 in
theorem c_X5_sheet (l : Launch) (D : va_G) (q : Nat → ClassId) (sz : Nat) (ad : Nat → Nat → Nat) (v0 : SV) (v9 : SV) (v10 : SV) (v11 : SV) (v12 : SV) (x1 : Int32) (x2 : Int32) (x3 : Int32) (res : Int32 × SV × SV × SV × SV) (hm : m_X5_sheet v0 v9 v10 v11 v12 x1 x2 x3 = some res) : Met l yX5_sheet (mw yX5_sheet cX5_sheet 4 (some .int)) ({ frames := 2, cells := 0, slots := 0, locals := 45 } : Room) (pcW D q (wX5 q ad v0 ++ (wX2 q (ad 9) v9 ++ (wX2 q (ad 10) v10 ++ (wX2 q (ad 11) v11 ++ wX2 q (ad 12) v12)))) sz [.ref (ad 0 99), .int x1, .int x2, .int x3]) (va_Qi (fun r w => r = res.1 ∧ w = res.2) (bW D q (wX5 q ad v0 ++ (wX2 q (ad 9) v9 ++ (wX2 q (ad 10) v10 ++ (wX2 q (ad 11) v11 ++ wX2 q (ad 12) v12)))) sz (fun (uu : SV × SV × SV × SV) => wX5 q ad v0 ++ (wX2 q (ad 9) uu.1 ++ (wX2 q (ad 10) uu.2.1 ++ (wX2 q (ad 11) uu.2.2.1 ++ wX2 q (ad 12) uu.2.2.2))))) (va_A (wX5 q ad v0 ++ (wX2 q (ad 9) v9 ++ (wX2 q (ad 10) v10 ++ (wX2 q (ad 11) v11 ++ wX2 q (ad 12) v12)))) sz)) 0 0 (va_A (wX5 q ad v0 ++ (wX2 q (ad 9) v9 ++ (wX2 q (ad 10) v10 ++ (wX2 q (ad 11) v11 ++ wX2 q (ad 12) v12)))) sz) := by
  refine Met.ofW (cc := cX5_sheet) (maxL := 4) (ret := (some .int)) (by decide) rfl ?_
  intro p e s m args below meth c s₁ B hml hv
  obtain ⟨rfl, hsz, hP0, hK, hD0⟩ := hv
  have hx := B.exec
  have hb := B.bytes
  have hr := B.returns
  have hW := mw_ws (atoms_spec (ws := mw yX5_sheet cX5_sheet 4 (some .int)) B.pre)
  have hown : s.vm.findClass RX5 = some m.cls := findClass_of_methodNamed B.named
  have hlocks := B.notSynchronized
  have X : Cx p s m [.ref (ad 0 99), .int x1, .int x2, .int x3].toArray c cX5_sheet 4 RX5 D q := ⟨hx, hb, hml, hown, hW, hK⟩
  subst hsz
  replace hD0 := hD0.self (sz := s.heap.size)
  have hS0 : va_S (va_A (wX5 q ad v0 ++ (wX2 q (ad 9) v9 ++ (wX2 q (ad 10) v10 ++ (wX2 q (ad 11) v11 ++ wX2 q (ad 12) v12)))) s.heap.size) s.heap s.heap [] := va_S.rf
  have hl0 := lv_entry ([.ref (ad 0 99), .int x1, .int x2, .int x3]) (n := 4) (Nat.le_of_ble_eq_true rfl)
  rw [lg_entry_eq]
  generalize (lg_sl ([.ref (ad 0 99), .int x1, .int x2, .int x3]) ++ List.replicate (4 - (lg_sl ([.ref (ad 0 99), .int x1, .int x2, .int x3])).length) Slot.unset).toArray = ls0 at hl0 ⊢
  have hl0 : lv_has ls0 4 [(0, .ref (ad 0 99)), (1, .int x1), (2, .int x2), (3, .int x3)] := hl0
  unfold m_X5_sheet at hm
  refine lv_iload_n hx hb dX5_sheet_0 rfl (lv_at hl0 1 rfl) ?_
  refine lv_iconst (v := (0 : Int32)) hx hb dX5_sheet_1 (by decide) ?_
  refine lv_iconst (v := (3 : Int32)) hx hb dX5_sheet_2 (by decide) ?_
  obtain ⟨y3, hy3, hm⟩ := bn hm
  refine cSRi (As := [.int x1, .int (0 : Int32), .int (3 : Int32)]) (rest := []) X hP0 hl0.1 (c_X5_within l D q x1 (0 : Int32) (3 : Int32) y3 hy3) [] rfl k_346 mX5_within ⟨rfl, rfl⟩ ⟨Nat.le_of_ble_eq_true rfl, Nat.le_of_ble_eq_true rfl⟩ rfl rfl (Nat.le_of_ble_eq_true rfl) dX5_sheet_3 ⟨Nat.zero_le _, Nat.zero_le _⟩ ?_
  refine lv_if_eq (tgt := 24) hx hb dX5_sheet_6 (by decide) (fun c6 => ?_) (fun c6 => ?_)
  · replace hm := tp hm c6
    refine lv_iconst (v := (-1 : Int32)) hx hb dX5_sheet_24 (by decide) ?_
    exact eWi (Wf := fun (uu : SV × SV × SV × SV) => wX5 q ad v0 ++ (wX2 q (ad 9) uu.1 ++ (wX2 q (ad 10) uu.2.1 ++ (wX2 q (ad 11) uu.2.2.1 ++ wX2 q (ad 12) uu.2.2.2)))) (u := (v9, v10, v11, v12)) X hr hlocks hP0 hD0 hS0 hm dX5_sheet_25
  · replace hm := tn hm c6
    refine lv_iload_n hx hb dX5_sheet_9 rfl (lv_at hl0 2 rfl) ?_
    refine lv_iconst (v := (0 : Int32)) hx hb dX5_sheet_10 (by decide) ?_
    refine lv_iconst (v := (2 : Int32)) hx hb dX5_sheet_11 (by decide) ?_
    obtain ⟨y12, hy12, hm⟩ := bn hm
    refine cSRi (As := [.int x2, .int (0 : Int32), .int (2 : Int32)]) (rest := []) X hP0 hl0.1 (c_X5_within l D q x2 (0 : Int32) (2 : Int32) y12 hy12) [] rfl k_346 mX5_within ⟨rfl, rfl⟩ ⟨Nat.le_of_ble_eq_true rfl, Nat.le_of_ble_eq_true rfl⟩ rfl rfl (Nat.le_of_ble_eq_true rfl) dX5_sheet_12 ⟨Nat.zero_le _, Nat.zero_le _⟩ ?_
    refine lv_if_eq (tgt := 24) hx hb dX5_sheet_15 (by decide) (fun c15 => ?_) (fun c15 => ?_)
    · replace hm := tp hm c15
      refine lv_iconst (v := (-1 : Int32)) hx hb dX5_sheet_24 (by decide) ?_
      exact eWi (Wf := fun (uu : SV × SV × SV × SV) => wX5 q ad v0 ++ (wX2 q (ad 9) uu.1 ++ (wX2 q (ad 10) uu.2.1 ++ (wX2 q (ad 11) uu.2.2.1 ++ wX2 q (ad 12) uu.2.2.2)))) (u := (v9, v10, v11, v12)) X hr hlocks hP0 hD0 hS0 hm dX5_sheet_25
    · replace hm := tn hm c15
      refine lv_iload_n hx hb dX5_sheet_18 rfl (lv_at hl0 3 rfl) ?_
      refine lv_bipush (v := (40 : Int32)) hx hb dX5_sheet_19 (by decide) ?_
      refine lv_icmp_le (tgt := 26) hx hb dX5_sheet_21 (by decide) (fun c21 => ?_) (fun c21 => ?_)
      · replace hm := tp hm c21
        refine lv_iload_n hx hb dX5_sheet_26 rfl (lv_at hl0 3 rfl) ?_
        refine lv_if_ge (tgt := 33) hx hb dX5_sheet_27 (by decide) (fun c27 => ?_) (fun c27 => ?_)
        · replace hm := tp hm c27
          refine lv_aload_n hx hb dX5_sheet_33 rfl (lv_at hl0 0 rfl) ?_
          refine va_get (D := D) (ci := 5) (v := .ref (ad 0 7)) (C := RX5) (T := TX5) (N := 11) hx hb hW iX5 hown hK hP0 0 rfl rfl 7 (by decide) (hW _ k_315) (fun _ h => h) rfl dX5_sheet_34 ?_
          refine lv_iload_n hx hb dX5_sheet_37 rfl (lv_at hl0 1 rfl) ?_
          by_cases c38_0 : x1 = (0 : Int32)
          · replace hm := tp hm c38_0
            refine r_aald (bb := (ad 9 99)) hx hb hK hP0 3 4 rfl rfl (inB_vp (by rw [c38_0]; decide)) (by rw [c38_0]; rfl) dX5_sheet_38 ?_
            refine lv_iload_n hx hb dX5_sheet_39 rfl (lv_at hl0 2 rfl) ?_
            refine lv_iload_n hx hb dX5_sheet_40 rfl (lv_at hl0 3 rfl) ?_
            obtain ⟨y41, hy41, hm⟩ := bn hm
            refine cVWv (As := [.int x2, .int x3]) (rest := []) (Wn := fun (uu : SV) => wX5 q ad v0 ++ (wX2 q (ad 9) uu ++ (wX2 q (ad 10) v10 ++ (wX2 q (ad 11) v11 ++ wX2 q (ad 12) v12)))) X hP0 hD0 hS0 (fun _ h => Or.inr h) hl0.1 (c_X2_renew l D q s.heap.size (ad 9) v9 x2 x3 y41 hy41) [6, 7] [0, 1, 2, 3, 4, 5, 8, 9, 10, 11, 12, 13] [0, 1, 2, 3, 4, 5, 12, 13, 6, 7, 8, 9, 10, 11] rfl (Wr := wX5 q ad v0 ++ (wX2 q (ad 10) v10 ++ (wX2 q (ad 11) v11 ++ wX2 q (ad 12) v12))) rfl (by decide) (by decide) (by decide) (by decide) (fun _ => rfl) 6 rfl rfl rfl k_819 mX2_renew ⟨rfl, rfl⟩ ⟨Nat.le_of_ble_eq_true rfl, Nat.le_of_ble_eq_true rfl⟩ rfl rfl (Nat.le_of_ble_eq_true rfl) dX5_sheet_41 ⟨Nat.zero_le _, Nat.zero_le _⟩ (fun H1 locs1 hP hD hS1 => ?_)
            have hP1 : va_P D cls (wX5 q ad v0 ++ (wX2 q (ad 9) y41 ++ (wX2 q (ad 10) v10 ++ (wX2 q (ad 11) v11 ++ wX2 q (ad 12) v12)))) H1 := hP
            have hD1 : va_D (va_A (wX5 q ad v0 ++ (wX2 q (ad 9) v9 ++ (wX2 q (ad 10) v10 ++ (wX2 q (ad 11) v11 ++ wX2 q (ad 12) v12)))) s.heap.size) (wX5 q ad v0 ++ (wX2 q (ad 9) y41 ++ (wX2 q (ad 10) v10 ++ (wX2 q (ad 11) v11 ++ wX2 q (ad 12) v12)))) := hD
            clear hP hD hP0 hD0 hS0
            refine lv_iconst (v := (1 : Int32)) hx hb dX5_sheet_44 (by decide) ?_
            exact eWi (Wf := fun (uu : SV × SV × SV × SV) => wX5 q ad v0 ++ (wX2 q (ad 9) uu.1 ++ (wX2 q (ad 10) uu.2.1 ++ (wX2 q (ad 11) uu.2.2.1 ++ wX2 q (ad 12) uu.2.2.2)))) (u := (y41, v10, v11, v12)) X hr hlocks hP1 hD1 hS1 hm dX5_sheet_45
          · replace hm := tn hm c38_0
            by_cases c38_1 : x1 = (1 : Int32)
            · replace hm := tp hm c38_1
              refine r_aald (bb := (ad 10 99)) hx hb hK hP0 3 4 rfl rfl (inB_vp (by rw [c38_1]; decide)) (by rw [c38_1]; rfl) dX5_sheet_38 ?_
              refine lv_iload_n hx hb dX5_sheet_39 rfl (lv_at hl0 2 rfl) ?_
              refine lv_iload_n hx hb dX5_sheet_40 rfl (lv_at hl0 3 rfl) ?_
              obtain ⟨y41, hy41, hm⟩ := bn hm
              refine cVWv (As := [.int x2, .int x3]) (rest := []) (Wn := fun (uu : SV) => wX5 q ad v0 ++ (wX2 q (ad 9) v9 ++ (wX2 q (ad 10) uu ++ (wX2 q (ad 11) v11 ++ wX2 q (ad 12) v12)))) X hP0 hD0 hS0 (fun _ h => Or.inr h) hl0.1 (c_X2_renew l D q s.heap.size (ad 10) v10 x2 x3 y41 hy41) [8, 9] [0, 1, 2, 3, 4, 5, 6, 7, 10, 11, 12, 13] [0, 1, 2, 3, 4, 5, 6, 7, 12, 13, 8, 9, 10, 11] rfl (Wr := wX5 q ad v0 ++ (wX2 q (ad 9) v9 ++ (wX2 q (ad 11) v11 ++ wX2 q (ad 12) v12))) rfl (by decide) (by decide) (by decide) (by decide) (fun _ => rfl) 8 rfl rfl rfl k_819 mX2_renew ⟨rfl, rfl⟩ ⟨Nat.le_of_ble_eq_true rfl, Nat.le_of_ble_eq_true rfl⟩ rfl rfl (Nat.le_of_ble_eq_true rfl) dX5_sheet_41 ⟨Nat.zero_le _, Nat.zero_le _⟩ (fun H2 locs2 hP hD hS2 => ?_)
              have hP2 : va_P D cls (wX5 q ad v0 ++ (wX2 q (ad 9) v9 ++ (wX2 q (ad 10) y41 ++ (wX2 q (ad 11) v11 ++ wX2 q (ad 12) v12)))) H2 := hP
              have hD2 : va_D (va_A (wX5 q ad v0 ++ (wX2 q (ad 9) v9 ++ (wX2 q (ad 10) v10 ++ (wX2 q (ad 11) v11 ++ wX2 q (ad 12) v12)))) s.heap.size) (wX5 q ad v0 ++ (wX2 q (ad 9) v9 ++ (wX2 q (ad 10) y41 ++ (wX2 q (ad 11) v11 ++ wX2 q (ad 12) v12)))) := hD
              clear hP hD hP0 hD0 hS0
              refine lv_iconst (v := (1 : Int32)) hx hb dX5_sheet_44 (by decide) ?_
              exact eWi (Wf := fun (uu : SV × SV × SV × SV) => wX5 q ad v0 ++ (wX2 q (ad 9) uu.1 ++ (wX2 q (ad 10) uu.2.1 ++ (wX2 q (ad 11) uu.2.2.1 ++ wX2 q (ad 12) uu.2.2.2)))) (u := (v9, y41, v11, v12)) X hr hlocks hP2 hD2 hS2 hm dX5_sheet_45
            · replace hm := tn hm c38_1
              by_cases c38_2 : x1 = (2 : Int32)
              · replace hm := tp hm c38_2
                refine r_aald (bb := (ad 11 99)) hx hb hK hP0 3 4 rfl rfl (inB_vp (by rw [c38_2]; decide)) (by rw [c38_2]; rfl) dX5_sheet_38 ?_
                refine lv_iload_n hx hb dX5_sheet_39 rfl (lv_at hl0 2 rfl) ?_
                refine lv_iload_n hx hb dX5_sheet_40 rfl (lv_at hl0 3 rfl) ?_
                obtain ⟨y41, hy41, hm⟩ := bn hm
                refine cVWv (As := [.int x2, .int x3]) (rest := []) (Wn := fun (uu : SV) => wX5 q ad v0 ++ (wX2 q (ad 9) v9 ++ (wX2 q (ad 10) v10 ++ (wX2 q (ad 11) uu ++ wX2 q (ad 12) v12)))) X hP0 hD0 hS0 (fun _ h => Or.inr h) hl0.1 (c_X2_renew l D q s.heap.size (ad 11) v11 x2 x3 y41 hy41) [10, 11] [0, 1, 2, 3, 4, 5, 6, 7, 8, 9, 12, 13] [0, 1, 2, 3, 4, 5, 6, 7, 8, 9, 12, 13, 10, 11] rfl (Wr := wX5 q ad v0 ++ (wX2 q (ad 9) v9 ++ (wX2 q (ad 10) v10 ++ wX2 q (ad 12) v12))) rfl (by decide) (by decide) (by decide) (by decide) (fun _ => rfl) 10 rfl rfl rfl k_819 mX2_renew ⟨rfl, rfl⟩ ⟨Nat.le_of_ble_eq_true rfl, Nat.le_of_ble_eq_true rfl⟩ rfl rfl (Nat.le_of_ble_eq_true rfl) dX5_sheet_41 ⟨Nat.zero_le _, Nat.zero_le _⟩ (fun H3 locs3 hP hD hS3 => ?_)
                have hP3 : va_P D cls (wX5 q ad v0 ++ (wX2 q (ad 9) v9 ++ (wX2 q (ad 10) v10 ++ (wX2 q (ad 11) y41 ++ wX2 q (ad 12) v12)))) H3 := hP
                have hD3 : va_D (va_A (wX5 q ad v0 ++ (wX2 q (ad 9) v9 ++ (wX2 q (ad 10) v10 ++ (wX2 q (ad 11) v11 ++ wX2 q (ad 12) v12)))) s.heap.size) (wX5 q ad v0 ++ (wX2 q (ad 9) v9 ++ (wX2 q (ad 10) v10 ++ (wX2 q (ad 11) y41 ++ wX2 q (ad 12) v12)))) := hD
                clear hP hD hP0 hD0 hS0
                refine lv_iconst (v := (1 : Int32)) hx hb dX5_sheet_44 (by decide) ?_
                exact eWi (Wf := fun (uu : SV × SV × SV × SV) => wX5 q ad v0 ++ (wX2 q (ad 9) uu.1 ++ (wX2 q (ad 10) uu.2.1 ++ (wX2 q (ad 11) uu.2.2.1 ++ wX2 q (ad 12) uu.2.2.2)))) (u := (v9, v10, y41, v12)) X hr hlocks hP3 hD3 hS3 hm dX5_sheet_45
              · replace hm := tn hm c38_2
                by_cases c38_3 : x1 = (3 : Int32)
                · replace hm := tp hm c38_3
                  refine r_aald (bb := (ad 12 99)) hx hb hK hP0 3 4 rfl rfl (inB_vp (by rw [c38_3]; decide)) (by rw [c38_3]; rfl) dX5_sheet_38 ?_
                  refine lv_iload_n hx hb dX5_sheet_39 rfl (lv_at hl0 2 rfl) ?_
                  refine lv_iload_n hx hb dX5_sheet_40 rfl (lv_at hl0 3 rfl) ?_
                  obtain ⟨y41, hy41, hm⟩ := bn hm
                  refine cVWv (As := [.int x2, .int x3]) (rest := []) (Wn := fun (uu : SV) => wX5 q ad v0 ++ (wX2 q (ad 9) v9 ++ (wX2 q (ad 10) v10 ++ (wX2 q (ad 11) v11 ++ wX2 q (ad 12) uu)))) X hP0 hD0 hS0 (fun _ h => Or.inr h) hl0.1 (c_X2_renew l D q s.heap.size (ad 12) v12 x2 x3 y41 hy41) [12, 13] [0, 1, 2, 3, 4, 5, 6, 7, 8, 9, 10, 11] [0, 1, 2, 3, 4, 5, 6, 7, 8, 9, 10, 11, 12, 13] rfl (Wr := wX5 q ad v0 ++ (wX2 q (ad 9) v9 ++ (wX2 q (ad 10) v10 ++ wX2 q (ad 11) v11))) rfl (by decide) (by decide) (by decide) (by decide) (fun _ => rfl) 12 rfl rfl rfl k_819 mX2_renew ⟨rfl, rfl⟩ ⟨Nat.le_of_ble_eq_true rfl, Nat.le_of_ble_eq_true rfl⟩ rfl rfl (Nat.le_of_ble_eq_true rfl) dX5_sheet_41 ⟨Nat.zero_le _, Nat.zero_le _⟩ (fun H4 locs4 hP hD hS4 => ?_)
                  have hP4 : va_P D cls (wX5 q ad v0 ++ (wX2 q (ad 9) v9 ++ (wX2 q (ad 10) v10 ++ (wX2 q (ad 11) v11 ++ wX2 q (ad 12) y41)))) H4 := hP
                  have hD4 : va_D (va_A (wX5 q ad v0 ++ (wX2 q (ad 9) v9 ++ (wX2 q (ad 10) v10 ++ (wX2 q (ad 11) v11 ++ wX2 q (ad 12) v12)))) s.heap.size) (wX5 q ad v0 ++ (wX2 q (ad 9) v9 ++ (wX2 q (ad 10) v10 ++ (wX2 q (ad 11) v11 ++ wX2 q (ad 12) y41)))) := hD
                  clear hP hD hP0 hD0 hS0
                  refine lv_iconst (v := (1 : Int32)) hx hb dX5_sheet_44 (by decide) ?_
                  exact eWi (Wf := fun (uu : SV × SV × SV × SV) => wX5 q ad v0 ++ (wX2 q (ad 9) uu.1 ++ (wX2 q (ad 10) uu.2.1 ++ (wX2 q (ad 11) uu.2.2.1 ++ wX2 q (ad 12) uu.2.2.2)))) (u := (v9, v10, v11, y41)) X hr hlocks hP4 hD4 hS4 hm dX5_sheet_45
                · replace hm := tn hm c38_3
                  cases hm
        · replace hm := tn hm c27
          refine lv_bipush (v := (-14 : Int32)) hx hb dX5_sheet_30 (by decide) ?_
          exact eWi (Wf := fun (uu : SV × SV × SV × SV) => wX5 q ad v0 ++ (wX2 q (ad 9) uu.1 ++ (wX2 q (ad 10) uu.2.1 ++ (wX2 q (ad 11) uu.2.2.1 ++ wX2 q (ad 12) uu.2.2.2)))) (u := (v9, v10, v11, v12)) X hr hlocks hP0 hD0 hS0 hm dX5_sheet_32
      · replace hm := tn hm c21
        refine lv_iconst (v := (-1 : Int32)) hx hb dX5_sheet_24 (by decide) ?_
        exact eWi (Wf := fun (uu : SV × SV × SV × SV) => wX5 q ad v0 ++ (wX2 q (ad 9) uu.1 ++ (wX2 q (ad 10) uu.2.1 ++ (wX2 q (ad 11) uu.2.2.1 ++ wX2 q (ad 12) uu.2.2.2)))) (u := (v9, v10, v11, v12)) X hr hlocks hP0 hD0 hS0 hm dX5_sheet_25
noncomputable def m_X5_lay (v0 : SV) (v9 : SV) (v10 : SV) (v11 : SV) (v12 : SV) (x1 : Int32) (x2 : Int32) (x3 : Int32) : Option (Int32 × SV × SV × SV × SV) :=
  (m_X5_within x1 (0 : Int32) (3 : Int32)).bind (fun y3 => (if y3 = 0 then some ((-1 : Int32), v9, v10, v11, v12) else (if x1 = (0 : Int32) then (m_X2_isThere v9).bind (fun y21 => (if y21 = 0 then some ((-11 : Int32), v9, v10, v11, v12) else (m_X2_hasCell v9 x2).bind (fun y33 => (if y33 = 0 then some ((-12 : Int32), v9, v10, v11, v12) else (m_X2_write v9 x2 x3).bind (fun y46 => some ((1 : Int32), y46, v10, v11, v12)))))) else (if x1 = (1 : Int32) then (m_X2_isThere v10).bind (fun y21 => (if y21 = 0 then some ((-11 : Int32), v9, v10, v11, v12) else (m_X2_hasCell v10 x2).bind (fun y33 => (if y33 = 0 then some ((-12 : Int32), v9, v10, v11, v12) else (m_X2_write v10 x2 x3).bind (fun y46 => some ((1 : Int32), v9, y46, v11, v12)))))) else (if x1 = (2 : Int32) then (m_X2_isThere v11).bind (fun y21 => (if y21 = 0 then some ((-11 : Int32), v9, v10, v11, v12) else (m_X2_hasCell v11 x2).bind (fun y33 => (if y33 = 0 then some ((-12 : Int32), v9, v10, v11, v12) else (m_X2_write v11 x2 x3).bind (fun y46 => some ((1 : Int32), v9, v10, y46, v12)))))) else (if x1 = (3 : Int32) then (m_X2_isThere v12).bind (fun y21 => (if y21 = 0 then some ((-11 : Int32), v9, v10, v11, v12) else (m_X2_hasCell v12 x2).bind (fun y33 => (if y33 = 0 then some ((-12 : Int32), v9, v10, v11, v12) else (m_X2_write v12 x2 x3).bind (fun y46 => some ((1 : Int32), v9, v10, v11, y46)))))) else none))))))
set_option maxHeartbeats 4000000 in
set_option maxRecDepth 100000 in
theorem c_X5_lay (l : Launch) (D : va_G) (q : Nat → ClassId) (sz : Nat) (ad : Nat → Nat → Nat) (v0 : SV) (v9 : SV) (v10 : SV) (v11 : SV) (v12 : SV) (x1 : Int32) (x2 : Int32) (x3 : Int32) (res : Int32 × SV × SV × SV × SV) (hm : m_X5_lay v0 v9 v10 v11 v12 x1 x2 x3 = some res) : Met l yX5_lay (mw yX5_lay cX5_lay 5 (some .int)) ({ frames := 1, cells := 0, slots := 0, locals := 22 } : Room) (pcW D q (wX5 q ad v0 ++ (wX2 q (ad 9) v9 ++ (wX2 q (ad 10) v10 ++ (wX2 q (ad 11) v11 ++ wX2 q (ad 12) v12)))) sz [.ref (ad 0 99), .int x1, .int x2, .int x3]) (va_Qi (fun r w => r = res.1 ∧ w = res.2) (bW D q (wX5 q ad v0 ++ (wX2 q (ad 9) v9 ++ (wX2 q (ad 10) v10 ++ (wX2 q (ad 11) v11 ++ wX2 q (ad 12) v12)))) sz (fun (uu : SV × SV × SV × SV) => wX5 q ad v0 ++ (wX2 q (ad 9) uu.1 ++ (wX2 q (ad 10) uu.2.1 ++ (wX2 q (ad 11) uu.2.2.1 ++ wX2 q (ad 12) uu.2.2.2))))) (va_A (wX5 q ad v0 ++ (wX2 q (ad 9) v9 ++ (wX2 q (ad 10) v10 ++ (wX2 q (ad 11) v11 ++ wX2 q (ad 12) v12)))) sz)) 0 0 (va_A (wX5 q ad v0 ++ (wX2 q (ad 9) v9 ++ (wX2 q (ad 10) v10 ++ (wX2 q (ad 11) v11 ++ wX2 q (ad 12) v12)))) sz) := by
  refine Met.ofW (cc := cX5_lay) (maxL := 5) (ret := (some .int)) (by decide) rfl ?_
  intro p e s m args below meth c s₁ B hml hv
  obtain ⟨rfl, hsz, hP0, hK, hD0⟩ := hv
  have hx := B.exec
  have hb := B.bytes
  have hr := B.returns
  have hW := mw_ws (atoms_spec (ws := mw yX5_lay cX5_lay 5 (some .int)) B.pre)
  have hown : s.vm.findClass RX5 = some m.cls := findClass_of_methodNamed B.named
  have hlocks := B.notSynchronized
  have X : Cx p s m [.ref (ad 0 99), .int x1, .int x2, .int x3].toArray c cX5_lay 5 RX5 D q := ⟨hx, hb, hml, hown, hW, hK⟩
  subst hsz
  replace hD0 := hD0.self (sz := s.heap.size)
  have hS0 : va_S (va_A (wX5 q ad v0 ++ (wX2 q (ad 9) v9 ++ (wX2 q (ad 10) v10 ++ (wX2 q (ad 11) v11 ++ wX2 q (ad 12) v12)))) s.heap.size) s.heap s.heap [] := va_S.rf
  have hl0 := lv_entry ([.ref (ad 0 99), .int x1, .int x2, .int x3]) (n := 5) (Nat.le_of_ble_eq_true rfl)
  rw [lg_entry_eq]
  generalize (lg_sl ([.ref (ad 0 99), .int x1, .int x2, .int x3]) ++ List.replicate (5 - (lg_sl ([.ref (ad 0 99), .int x1, .int x2, .int x3])).length) Slot.unset).toArray = ls0 at hl0 ⊢
  have hl0 : lv_has ls0 5 [(0, .ref (ad 0 99)), (1, .int x1), (2, .int x2), (3, .int x3)] := hl0
  unfold m_X5_lay at hm
  refine lv_iload_n hx hb dX5_lay_0 rfl (lv_at hl0 1 rfl) ?_
  refine lv_iconst (v := (0 : Int32)) hx hb dX5_lay_1 (by decide) ?_
  refine lv_iconst (v := (3 : Int32)) hx hb dX5_lay_2 (by decide) ?_
  obtain ⟨y3, hy3, hm⟩ := bn hm
  refine cSRi (As := [.int x1, .int (0 : Int32), .int (3 : Int32)]) (rest := []) X hP0 hl0.1 (c_X5_within l D q x1 (0 : Int32) (3 : Int32) y3 hy3) [] rfl k_346 mX5_within ⟨rfl, rfl⟩ ⟨Nat.le_of_ble_eq_true rfl, Nat.le_of_ble_eq_true rfl⟩ rfl rfl (Nat.le_of_ble_eq_true rfl) dX5_lay_3 ⟨Nat.zero_le _, Nat.zero_le _⟩ ?_
  refine lv_if_ne (tgt := 11) hx hb dX5_lay_6 (by decide) (fun c6 => ?_) (fun c6 => ?_)
  · replace hm := tn hm c6
    refine lv_aload_n hx hb dX5_lay_11 rfl (lv_at hl0 0 rfl) ?_
    refine va_get (D := D) (ci := 5) (v := .ref (ad 0 7)) (C := RX5) (T := TX5) (N := 11) hx hb hW iX5 hown hK hP0 0 rfl rfl 7 (by decide) (hW _ k_315) (fun _ h => h) rfl dX5_lay_12 ?_
    refine lv_iload_n hx hb dX5_lay_15 rfl (lv_at hl0 1 rfl) ?_
    by_cases c16_0 : x1 = (0 : Int32)
    · replace hm := tp hm c16_0
      refine r_aald (bb := (ad 9 99)) hx hb hK hP0 3 4 rfl rfl (inB_vp (by rw [c16_0]; decide)) (by rw [c16_0]; rfl) dX5_lay_16 ?_
      refine lv_astore (lv' := [(4, .ref (ad 9 99)), (0, .ref (ad 0 99)), (1, .int x1), (2, .int x2), (3, .int x3)]) hx hb dX5_lay_17 hl0 (by decide) rfl (fun ls1 hl1 => ?_)
      clear hl0
      refine lv_aload hx hb dX5_lay_19 (lv_at hl1 0 rfl) ?_
      obtain ⟨y21, hy21, hm⟩ := bn hm
      refine cVRi (As := []) (rest := []) X hP0 hl1.1 (c_X2_isThere l D q (ad 9) v9 y21 hy21) [6, 7] rfl 6 rfl rfl rfl k_828 mX2_isThere ⟨rfl, rfl⟩ ⟨Nat.le_of_ble_eq_true rfl, Nat.le_of_ble_eq_true rfl⟩ rfl rfl (Nat.le_of_ble_eq_true rfl) dX5_lay_21 ⟨Nat.zero_le _, Nat.zero_le _⟩ ?_
      refine lv_if_ne (tgt := 30) hx hb dX5_lay_24 (by decide) (fun c24 => ?_) (fun c24 => ?_)
      · replace hm := tn hm c24
        refine lv_aload hx hb dX5_lay_30 (lv_at hl1 0 rfl) ?_
        refine lv_iload_n hx hb dX5_lay_32 rfl (lv_at hl1 3 rfl) ?_
        obtain ⟨y33, hy33, hm⟩ := bn hm
        refine cVRi (As := [.int x2]) (rest := []) X hP0 hl1.1 (c_X2_hasCell l D q (ad 9) v9 x2 y33 hy33) [6, 7] rfl 6 rfl rfl rfl k_832 mX2_hasCell ⟨rfl, rfl⟩ ⟨Nat.le_of_ble_eq_true rfl, Nat.le_of_ble_eq_true rfl⟩ rfl rfl (Nat.le_of_ble_eq_true rfl) dX5_lay_33 ⟨Nat.zero_le _, Nat.zero_le _⟩ ?_
        refine lv_if_ne (tgt := 42) hx hb dX5_lay_36 (by decide) (fun c36 => ?_) (fun c36 => ?_)
        · replace hm := tn hm c36
          refine lv_aload hx hb dX5_lay_42 (lv_at hl1 0 rfl) ?_
          refine lv_iload_n hx hb dX5_lay_44 rfl (lv_at hl1 3 rfl) ?_
          refine lv_iload_n hx hb dX5_lay_45 rfl (lv_at hl1 4 rfl) ?_
          obtain ⟨y46, hy46, hm⟩ := bn hm
          refine cVWv (As := [.int x2, .int x3]) (rest := []) (Wn := fun (uu : SV) => wX5 q ad v0 ++ (wX2 q (ad 9) uu ++ (wX2 q (ad 10) v10 ++ (wX2 q (ad 11) v11 ++ wX2 q (ad 12) v12)))) X hP0 hD0 hS0 (fun _ h => Or.inr h) hl1.1 (c_X2_write l D q s.heap.size (ad 9) v9 x2 x3 y46 hy46) [6, 7] [0, 1, 2, 3, 4, 5, 8, 9, 10, 11, 12, 13] [0, 1, 2, 3, 4, 5, 12, 13, 6, 7, 8, 9, 10, 11] rfl (Wr := wX5 q ad v0 ++ (wX2 q (ad 10) v10 ++ (wX2 q (ad 11) v11 ++ wX2 q (ad 12) v12))) rfl (by decide) (by decide) (by decide) (by decide) (fun _ => rfl) 6 rfl rfl rfl k_836 mX2_write ⟨rfl, rfl⟩ ⟨Nat.le_of_ble_eq_true rfl, Nat.le_of_ble_eq_true rfl⟩ rfl rfl (Nat.le_of_ble_eq_true rfl) dX5_lay_46 ⟨Nat.zero_le _, Nat.zero_le _⟩ (fun H2 locs2 hP hD hS2 => ?_)
          have hP2 : va_P D cls (wX5 q ad v0 ++ (wX2 q (ad 9) y46 ++ (wX2 q (ad 10) v10 ++ (wX2 q (ad 11) v11 ++ wX2 q (ad 12) v12)))) H2 := hP
          have hD2 : va_D (va_A (wX5 q ad v0 ++ (wX2 q (ad 9) v9 ++ (wX2 q (ad 10) v10 ++ (wX2 q (ad 11) v11 ++ wX2 q (ad 12) v12)))) s.heap.size) (wX5 q ad v0 ++ (wX2 q (ad 9) y46 ++ (wX2 q (ad 10) v10 ++ (wX2 q (ad 11) v11 ++ wX2 q (ad 12) v12)))) := hD
          clear hP hD hP0 hD0 hS0
          refine lv_iconst (v := (1 : Int32)) hx hb dX5_lay_49 (by decide) ?_
          exact eWi (Wf := fun (uu : SV × SV × SV × SV) => wX5 q ad v0 ++ (wX2 q (ad 9) uu.1 ++ (wX2 q (ad 10) uu.2.1 ++ (wX2 q (ad 11) uu.2.2.1 ++ wX2 q (ad 12) uu.2.2.2)))) (u := (y46, v10, v11, v12)) X hr hlocks hP2 hD2 hS2 hm dX5_lay_50
        · replace hm := tp hm c36
          refine lv_bipush (v := (-12 : Int32)) hx hb dX5_lay_39 (by decide) ?_
          exact eWi (Wf := fun (uu : SV × SV × SV × SV) => wX5 q ad v0 ++ (wX2 q (ad 9) uu.1 ++ (wX2 q (ad 10) uu.2.1 ++ (wX2 q (ad 11) uu.2.2.1 ++ wX2 q (ad 12) uu.2.2.2)))) (u := (v9, v10, v11, v12)) X hr hlocks hP0 hD0 hS0 hm dX5_lay_41
      · replace hm := tp hm c24
        refine lv_bipush (v := (-11 : Int32)) hx hb dX5_lay_27 (by decide) ?_
        exact eWi (Wf := fun (uu : SV × SV × SV × SV) => wX5 q ad v0 ++ (wX2 q (ad 9) uu.1 ++ (wX2 q (ad 10) uu.2.1 ++ (wX2 q (ad 11) uu.2.2.1 ++ wX2 q (ad 12) uu.2.2.2)))) (u := (v9, v10, v11, v12)) X hr hlocks hP0 hD0 hS0 hm dX5_lay_29
    · replace hm := tn hm c16_0
      by_cases c16_1 : x1 = (1 : Int32)
      · replace hm := tp hm c16_1
        refine r_aald (bb := (ad 10 99)) hx hb hK hP0 3 4 rfl rfl (inB_vp (by rw [c16_1]; decide)) (by rw [c16_1]; rfl) dX5_lay_16 ?_
        refine lv_astore (lv' := [(4, .ref (ad 10 99)), (0, .ref (ad 0 99)), (1, .int x1), (2, .int x2), (3, .int x3)]) hx hb dX5_lay_17 hl0 (by decide) rfl (fun ls3 hl3 => ?_)
        clear hl0
        refine lv_aload hx hb dX5_lay_19 (lv_at hl3 0 rfl) ?_
        obtain ⟨y21, hy21, hm⟩ := bn hm
        refine cVRi (As := []) (rest := []) X hP0 hl3.1 (c_X2_isThere l D q (ad 10) v10 y21 hy21) [8, 9] rfl 8 rfl rfl rfl k_828 mX2_isThere ⟨rfl, rfl⟩ ⟨Nat.le_of_ble_eq_true rfl, Nat.le_of_ble_eq_true rfl⟩ rfl rfl (Nat.le_of_ble_eq_true rfl) dX5_lay_21 ⟨Nat.zero_le _, Nat.zero_le _⟩ ?_
        refine lv_if_ne (tgt := 30) hx hb dX5_lay_24 (by decide) (fun c24 => ?_) (fun c24 => ?_)
        · replace hm := tn hm c24
          refine lv_aload hx hb dX5_lay_30 (lv_at hl3 0 rfl) ?_
          refine lv_iload_n hx hb dX5_lay_32 rfl (lv_at hl3 3 rfl) ?_
          obtain ⟨y33, hy33, hm⟩ := bn hm
          refine cVRi (As := [.int x2]) (rest := []) X hP0 hl3.1 (c_X2_hasCell l D q (ad 10) v10 x2 y33 hy33) [8, 9] rfl 8 rfl rfl rfl k_832 mX2_hasCell ⟨rfl, rfl⟩ ⟨Nat.le_of_ble_eq_true rfl, Nat.le_of_ble_eq_true rfl⟩ rfl rfl (Nat.le_of_ble_eq_true rfl) dX5_lay_33 ⟨Nat.zero_le _, Nat.zero_le _⟩ ?_
          refine lv_if_ne (tgt := 42) hx hb dX5_lay_36 (by decide) (fun c36 => ?_) (fun c36 => ?_)
          · replace hm := tn hm c36
            refine lv_aload hx hb dX5_lay_42 (lv_at hl3 0 rfl) ?_
            refine lv_iload_n hx hb dX5_lay_44 rfl (lv_at hl3 3 rfl) ?_
            refine lv_iload_n hx hb dX5_lay_45 rfl (lv_at hl3 4 rfl) ?_
            obtain ⟨y46, hy46, hm⟩ := bn hm
            refine cVWv (As := [.int x2, .int x3]) (rest := []) (Wn := fun (uu : SV) => wX5 q ad v0 ++ (wX2 q (ad 9) v9 ++ (wX2 q (ad 10) uu ++ (wX2 q (ad 11) v11 ++ wX2 q (ad 12) v12)))) X hP0 hD0 hS0 (fun _ h => Or.inr h) hl3.1 (c_X2_write l D q s.heap.size (ad 10) v10 x2 x3 y46 hy46) [8, 9] [0, 1, 2, 3, 4, 5, 6, 7, 10, 11, 12, 13] [0, 1, 2, 3, 4, 5, 6, 7, 12, 13, 8, 9, 10, 11] rfl (Wr := wX5 q ad v0 ++ (wX2 q (ad 9) v9 ++ (wX2 q (ad 11) v11 ++ wX2 q (ad 12) v12))) rfl (by decide) (by decide) (by decide) (by decide) (fun _ => rfl) 8 rfl rfl rfl k_836 mX2_write ⟨rfl, rfl⟩ ⟨Nat.le_of_ble_eq_true rfl, Nat.le_of_ble_eq_true rfl⟩ rfl rfl (Nat.le_of_ble_eq_true rfl) dX5_lay_46 ⟨Nat.zero_le _, Nat.zero_le _⟩ (fun H4 locs4 hP hD hS4 => ?_)
            have hP4 : va_P D cls (wX5 q ad v0 ++ (wX2 q (ad 9) v9 ++ (wX2 q (ad 10) y46 ++ (wX2 q (ad 11) v11 ++ wX2 q (ad 12) v12)))) H4 := hP
            have hD4 : va_D (va_A (wX5 q ad v0 ++ (wX2 q (ad 9) v9 ++ (wX2 q (ad 10) v10 ++ (wX2 q (ad 11) v11 ++ wX2 q (ad 12) v12)))) s.heap.size) (wX5 q ad v0 ++ (wX2 q (ad 9) v9 ++ (wX2 q (ad 10) y46 ++ (wX2 q (ad 11) v11 ++ wX2 q (ad 12) v12)))) := hD
            clear hP hD hP0 hD0 hS0
            refine lv_iconst (v := (1 : Int32)) hx hb dX5_lay_49 (by decide) ?_
            exact eWi (Wf := fun (uu : SV × SV × SV × SV) => wX5 q ad v0 ++ (wX2 q (ad 9) uu.1 ++ (wX2 q (ad 10) uu.2.1 ++ (wX2 q (ad 11) uu.2.2.1 ++ wX2 q (ad 12) uu.2.2.2)))) (u := (v9, y46, v11, v12)) X hr hlocks hP4 hD4 hS4 hm dX5_lay_50
          · replace hm := tp hm c36
            refine lv_bipush (v := (-12 : Int32)) hx hb dX5_lay_39 (by decide) ?_
            exact eWi (Wf := fun (uu : SV × SV × SV × SV) => wX5 q ad v0 ++ (wX2 q (ad 9) uu.1 ++ (wX2 q (ad 10) uu.2.1 ++ (wX2 q (ad 11) uu.2.2.1 ++ wX2 q (ad 12) uu.2.2.2)))) (u := (v9, v10, v11, v12)) X hr hlocks hP0 hD0 hS0 hm dX5_lay_41
        · replace hm := tp hm c24
          refine lv_bipush (v := (-11 : Int32)) hx hb dX5_lay_27 (by decide) ?_
          exact eWi (Wf := fun (uu : SV × SV × SV × SV) => wX5 q ad v0 ++ (wX2 q (ad 9) uu.1 ++ (wX2 q (ad 10) uu.2.1 ++ (wX2 q (ad 11) uu.2.2.1 ++ wX2 q (ad 12) uu.2.2.2)))) (u := (v9, v10, v11, v12)) X hr hlocks hP0 hD0 hS0 hm dX5_lay_29
      · replace hm := tn hm c16_1
        by_cases c16_2 : x1 = (2 : Int32)
        · replace hm := tp hm c16_2
          refine r_aald (bb := (ad 11 99)) hx hb hK hP0 3 4 rfl rfl (inB_vp (by rw [c16_2]; decide)) (by rw [c16_2]; rfl) dX5_lay_16 ?_
          refine lv_astore (lv' := [(4, .ref (ad 11 99)), (0, .ref (ad 0 99)), (1, .int x1), (2, .int x2), (3, .int x3)]) hx hb dX5_lay_17 hl0 (by decide) rfl (fun ls5 hl5 => ?_)
          clear hl0
          refine lv_aload hx hb dX5_lay_19 (lv_at hl5 0 rfl) ?_
          obtain ⟨y21, hy21, hm⟩ := bn hm
          refine cVRi (As := []) (rest := []) X hP0 hl5.1 (c_X2_isThere l D q (ad 11) v11 y21 hy21) [10, 11] rfl 10 rfl rfl rfl k_828 mX2_isThere ⟨rfl, rfl⟩ ⟨Nat.le_of_ble_eq_true rfl, Nat.le_of_ble_eq_true rfl⟩ rfl rfl (Nat.le_of_ble_eq_true rfl) dX5_lay_21 ⟨Nat.zero_le _, Nat.zero_le _⟩ ?_
          refine lv_if_ne (tgt := 30) hx hb dX5_lay_24 (by decide) (fun c24 => ?_) (fun c24 => ?_)
          · replace hm := tn hm c24
            refine lv_aload hx hb dX5_lay_30 (lv_at hl5 0 rfl) ?_
            refine lv_iload_n hx hb dX5_lay_32 rfl (lv_at hl5 3 rfl) ?_
            obtain ⟨y33, hy33, hm⟩ := bn hm
            refine cVRi (As := [.int x2]) (rest := []) X hP0 hl5.1 (c_X2_hasCell l D q (ad 11) v11 x2 y33 hy33) [10, 11] rfl 10 rfl rfl rfl k_832 mX2_hasCell ⟨rfl, rfl⟩ ⟨Nat.le_of_ble_eq_true rfl, Nat.le_of_ble_eq_true rfl⟩ rfl rfl (Nat.le_of_ble_eq_true rfl) dX5_lay_33 ⟨Nat.zero_le _, Nat.zero_le _⟩ ?_
            refine lv_if_ne (tgt := 42) hx hb dX5_lay_36 (by decide) (fun c36 => ?_) (fun c36 => ?_)
            · replace hm := tn hm c36
              refine lv_aload hx hb dX5_lay_42 (lv_at hl5 0 rfl) ?_
              refine lv_iload_n hx hb dX5_lay_44 rfl (lv_at hl5 3 rfl) ?_
              refine lv_iload_n hx hb dX5_lay_45 rfl (lv_at hl5 4 rfl) ?_
              obtain ⟨y46, hy46, hm⟩ := bn hm
              refine cVWv (As := [.int x2, .int x3]) (rest := []) (Wn := fun (uu : SV) => wX5 q ad v0 ++ (wX2 q (ad 9) v9 ++ (wX2 q (ad 10) v10 ++ (wX2 q (ad 11) uu ++ wX2 q (ad 12) v12)))) X hP0 hD0 hS0 (fun _ h => Or.inr h) hl5.1 (c_X2_write l D q s.heap.size (ad 11) v11 x2 x3 y46 hy46) [10, 11] [0, 1, 2, 3, 4, 5, 6, 7, 8, 9, 12, 13] [0, 1, 2, 3, 4, 5, 6, 7, 8, 9, 12, 13, 10, 11] rfl (Wr := wX5 q ad v0 ++ (wX2 q (ad 9) v9 ++ (wX2 q (ad 10) v10 ++ wX2 q (ad 12) v12))) rfl (by decide) (by decide) (by decide) (by decide) (fun _ => rfl) 10 rfl rfl rfl k_836 mX2_write ⟨rfl, rfl⟩ ⟨Nat.le_of_ble_eq_true rfl, Nat.le_of_ble_eq_true rfl⟩ rfl rfl (Nat.le_of_ble_eq_true rfl) dX5_lay_46 ⟨Nat.zero_le _, Nat.zero_le _⟩ (fun H6 locs6 hP hD hS6 => ?_)
              have hP6 : va_P D cls (wX5 q ad v0 ++ (wX2 q (ad 9) v9 ++ (wX2 q (ad 10) v10 ++ (wX2 q (ad 11) y46 ++ wX2 q (ad 12) v12)))) H6 := hP
              have hD6 : va_D (va_A (wX5 q ad v0 ++ (wX2 q (ad 9) v9 ++ (wX2 q (ad 10) v10 ++ (wX2 q (ad 11) v11 ++ wX2 q (ad 12) v12)))) s.heap.size) (wX5 q ad v0 ++ (wX2 q (ad 9) v9 ++ (wX2 q (ad 10) v10 ++ (wX2 q (ad 11) y46 ++ wX2 q (ad 12) v12)))) := hD
              clear hP hD hP0 hD0 hS0
              refine lv_iconst (v := (1 : Int32)) hx hb dX5_lay_49 (by decide) ?_
              exact eWi (Wf := fun (uu : SV × SV × SV × SV) => wX5 q ad v0 ++ (wX2 q (ad 9) uu.1 ++ (wX2 q (ad 10) uu.2.1 ++ (wX2 q (ad 11) uu.2.2.1 ++ wX2 q (ad 12) uu.2.2.2)))) (u := (v9, v10, y46, v12)) X hr hlocks hP6 hD6 hS6 hm dX5_lay_50
            · replace hm := tp hm c36
              refine lv_bipush (v := (-12 : Int32)) hx hb dX5_lay_39 (by decide) ?_
              exact eWi (Wf := fun (uu : SV × SV × SV × SV) => wX5 q ad v0 ++ (wX2 q (ad 9) uu.1 ++ (wX2 q (ad 10) uu.2.1 ++ (wX2 q (ad 11) uu.2.2.1 ++ wX2 q (ad 12) uu.2.2.2)))) (u := (v9, v10, v11, v12)) X hr hlocks hP0 hD0 hS0 hm dX5_lay_41
          · replace hm := tp hm c24
            refine lv_bipush (v := (-11 : Int32)) hx hb dX5_lay_27 (by decide) ?_
            exact eWi (Wf := fun (uu : SV × SV × SV × SV) => wX5 q ad v0 ++ (wX2 q (ad 9) uu.1 ++ (wX2 q (ad 10) uu.2.1 ++ (wX2 q (ad 11) uu.2.2.1 ++ wX2 q (ad 12) uu.2.2.2)))) (u := (v9, v10, v11, v12)) X hr hlocks hP0 hD0 hS0 hm dX5_lay_29
        · replace hm := tn hm c16_2
          by_cases c16_3 : x1 = (3 : Int32)
          · replace hm := tp hm c16_3
            refine r_aald (bb := (ad 12 99)) hx hb hK hP0 3 4 rfl rfl (inB_vp (by rw [c16_3]; decide)) (by rw [c16_3]; rfl) dX5_lay_16 ?_
            refine lv_astore (lv' := [(4, .ref (ad 12 99)), (0, .ref (ad 0 99)), (1, .int x1), (2, .int x2), (3, .int x3)]) hx hb dX5_lay_17 hl0 (by decide) rfl (fun ls7 hl7 => ?_)
            clear hl0
            refine lv_aload hx hb dX5_lay_19 (lv_at hl7 0 rfl) ?_
            obtain ⟨y21, hy21, hm⟩ := bn hm
            refine cVRi (As := []) (rest := []) X hP0 hl7.1 (c_X2_isThere l D q (ad 12) v12 y21 hy21) [12, 13] rfl 12 rfl rfl rfl k_828 mX2_isThere ⟨rfl, rfl⟩ ⟨Nat.le_of_ble_eq_true rfl, Nat.le_of_ble_eq_true rfl⟩ rfl rfl (Nat.le_of_ble_eq_true rfl) dX5_lay_21 ⟨Nat.zero_le _, Nat.zero_le _⟩ ?_
            refine lv_if_ne (tgt := 30) hx hb dX5_lay_24 (by decide) (fun c24 => ?_) (fun c24 => ?_)
            · replace hm := tn hm c24
              refine lv_aload hx hb dX5_lay_30 (lv_at hl7 0 rfl) ?_
              refine lv_iload_n hx hb dX5_lay_32 rfl (lv_at hl7 3 rfl) ?_
              obtain ⟨y33, hy33, hm⟩ := bn hm
              refine cVRi (As := [.int x2]) (rest := []) X hP0 hl7.1 (c_X2_hasCell l D q (ad 12) v12 x2 y33 hy33) [12, 13] rfl 12 rfl rfl rfl k_832 mX2_hasCell ⟨rfl, rfl⟩ ⟨Nat.le_of_ble_eq_true rfl, Nat.le_of_ble_eq_true rfl⟩ rfl rfl (Nat.le_of_ble_eq_true rfl) dX5_lay_33 ⟨Nat.zero_le _, Nat.zero_le _⟩ ?_
              refine lv_if_ne (tgt := 42) hx hb dX5_lay_36 (by decide) (fun c36 => ?_) (fun c36 => ?_)
              · replace hm := tn hm c36
                refine lv_aload hx hb dX5_lay_42 (lv_at hl7 0 rfl) ?_
                refine lv_iload_n hx hb dX5_lay_44 rfl (lv_at hl7 3 rfl) ?_
                refine lv_iload_n hx hb dX5_lay_45 rfl (lv_at hl7 4 rfl) ?_
                obtain ⟨y46, hy46, hm⟩ := bn hm
                refine cVWv (As := [.int x2, .int x3]) (rest := []) (Wn := fun (uu : SV) => wX5 q ad v0 ++ (wX2 q (ad 9) v9 ++ (wX2 q (ad 10) v10 ++ (wX2 q (ad 11) v11 ++ wX2 q (ad 12) uu)))) X hP0 hD0 hS0 (fun _ h => Or.inr h) hl7.1 (c_X2_write l D q s.heap.size (ad 12) v12 x2 x3 y46 hy46) [12, 13] [0, 1, 2, 3, 4, 5, 6, 7, 8, 9, 10, 11] [0, 1, 2, 3, 4, 5, 6, 7, 8, 9, 10, 11, 12, 13] rfl (Wr := wX5 q ad v0 ++ (wX2 q (ad 9) v9 ++ (wX2 q (ad 10) v10 ++ wX2 q (ad 11) v11))) rfl (by decide) (by decide) (by decide) (by decide) (fun _ => rfl) 12 rfl rfl rfl k_836 mX2_write ⟨rfl, rfl⟩ ⟨Nat.le_of_ble_eq_true rfl, Nat.le_of_ble_eq_true rfl⟩ rfl rfl (Nat.le_of_ble_eq_true rfl) dX5_lay_46 ⟨Nat.zero_le _, Nat.zero_le _⟩ (fun H8 locs8 hP hD hS8 => ?_)
                have hP8 : va_P D cls (wX5 q ad v0 ++ (wX2 q (ad 9) v9 ++ (wX2 q (ad 10) v10 ++ (wX2 q (ad 11) v11 ++ wX2 q (ad 12) y46)))) H8 := hP
                have hD8 : va_D (va_A (wX5 q ad v0 ++ (wX2 q (ad 9) v9 ++ (wX2 q (ad 10) v10 ++ (wX2 q (ad 11) v11 ++ wX2 q (ad 12) v12)))) s.heap.size) (wX5 q ad v0 ++ (wX2 q (ad 9) v9 ++ (wX2 q (ad 10) v10 ++ (wX2 q (ad 11) v11 ++ wX2 q (ad 12) y46)))) := hD
                clear hP hD hP0 hD0 hS0
                refine lv_iconst (v := (1 : Int32)) hx hb dX5_lay_49 (by decide) ?_
                exact eWi (Wf := fun (uu : SV × SV × SV × SV) => wX5 q ad v0 ++ (wX2 q (ad 9) uu.1 ++ (wX2 q (ad 10) uu.2.1 ++ (wX2 q (ad 11) uu.2.2.1 ++ wX2 q (ad 12) uu.2.2.2)))) (u := (v9, v10, v11, y46)) X hr hlocks hP8 hD8 hS8 hm dX5_lay_50
              · replace hm := tp hm c36
                refine lv_bipush (v := (-12 : Int32)) hx hb dX5_lay_39 (by decide) ?_
                exact eWi (Wf := fun (uu : SV × SV × SV × SV) => wX5 q ad v0 ++ (wX2 q (ad 9) uu.1 ++ (wX2 q (ad 10) uu.2.1 ++ (wX2 q (ad 11) uu.2.2.1 ++ wX2 q (ad 12) uu.2.2.2)))) (u := (v9, v10, v11, v12)) X hr hlocks hP0 hD0 hS0 hm dX5_lay_41
            · replace hm := tp hm c24
              refine lv_bipush (v := (-11 : Int32)) hx hb dX5_lay_27 (by decide) ?_
              exact eWi (Wf := fun (uu : SV × SV × SV × SV) => wX5 q ad v0 ++ (wX2 q (ad 9) uu.1 ++ (wX2 q (ad 10) uu.2.1 ++ (wX2 q (ad 11) uu.2.2.1 ++ wX2 q (ad 12) uu.2.2.2)))) (u := (v9, v10, v11, v12)) X hr hlocks hP0 hD0 hS0 hm dX5_lay_29
          · replace hm := tn hm c16_3
            cases hm
  · replace hm := tp hm c6
    refine lv_iconst (v := (-1 : Int32)) hx hb dX5_lay_9 (by decide) ?_
    exact eWi (Wf := fun (uu : SV × SV × SV × SV) => wX5 q ad v0 ++ (wX2 q (ad 9) uu.1 ++ (wX2 q (ad 10) uu.2.1 ++ (wX2 q (ad 11) uu.2.2.1 ++ wX2 q (ad 12) uu.2.2.2)))) (u := (v9, v10, v11, v12)) X hr hlocks hP0 hD0 hS0 hm dX5_lay_10
noncomputable def m_X5_read_K73 (v0 : SV) (v1 : SV) (z73 : Int32 × Int32 × Int32 × SV) : Option (Int32 × SV × SV × SV) :=
  (m_X3_becomes v1 z73.2.2.2).bind (fun y172 => lett (up2 v0 0 10 z73.1) (fun v13_ => some (z73.2.1, v13_, y172, z73.2.2.2)))
noncomputable def m_X5_read_L73 (v0 : SV) (v1 : SV) (v9 : SV) (x3 : Int32) (x4 : Int32) (z73 : Int32 × Int32 × Int32 × SV) : Option ((Int32 × Int32 × Int32 × SV) ⊕ ((Int32 × Int32 × Int32 × SV) ⊕ (Int32 × SV × SV × SV))) :=
  (if x4 ≤ z73.2.2.1 then some (.inr (.inl (z73.1, z73.2.1, z73.2.2.1, z73.2.2.2))) else (if z73.1 = 0 then (m_X2_hasCell v9 (x3 + ((2 : Int32) * z73.2.2.1))).bind (fun y97 => (if y97 = 0 then some (.inl ((2 : Int32), z73.2.1, (z73.2.2.1 + (1 : Int32)), z73.2.2.2)) else (m_X2_hasCell v9 ((x3 + ((2 : Int32) * z73.2.2.1)) + (1 : Int32))).bind (fun y109 => (if y109 = 0 then some (.inl ((2 : Int32), z73.2.1, (z73.2.2.1 + (1 : Int32)), z73.2.2.2)) else ck (inB (x3 + ((2 : Int32) * z73.2.2.1)) 40) (ck (inB ((x3 + ((2 : Int32) * z73.2.2.1)) + (1 : Int32)) 40) ((m_X3_sit z73.2.2.2 (v9 2 (((x3 + ((2 : Int32) * z73.2.2.1))).toNatClampNeg)) (v9 2 ((((x3 + ((2 : Int32) * z73.2.2.1)) + (1 : Int32))).toNatClampNeg))).bind (fun y143 => (if 0 ≤ y143.1 then some (.inl (z73.1, (z73.2.1 + (1 : Int32)), (z73.2.2.1 + (1 : Int32)), y143.2)) else some (.inr (.inr (((-20 : Int32) - z73.2.2.1), v0, v1, y143.2))))))))))) else some (.inr (.inl (z73.1, z73.2.1, z73.2.2.1, z73.2.2.2)))))
noncomputable def m_X5_read_J54 (v0 : SV) (v1 : SV) (v2 : SV) (v9 : SV) (x3 : Int32) (x4 : Int32) (z54 : Int32) : Option (Int32 × SV × SV × SV) :=
  (m_X3_becomes v2 v1).bind (fun y67 => (lpC (m_X5_read_L73 v0 v1 v9 x3 x4) (z54, (0 : Int32), (0 : Int32), y67)).bind (Sum.elim (m_X5_read_K73 v0 v1) (fun y => some y)))
noncomputable def m_X5_read_K73_2 (v0 : SV) (v1 : SV) (z73 : Int32 × Int32 × Int32 × SV) : Option (Int32 × SV × SV × SV) :=
  (m_X3_becomes v1 z73.2.2.2).bind (fun y172 => lett (up2 v0 0 10 z73.1) (fun v36_ => some (z73.2.1, v36_, y172, z73.2.2.2)))
noncomputable def m_X5_read_L73_2 (v0 : SV) (v1 : SV) (v10 : SV) (x3 : Int32) (x4 : Int32) (z73 : Int32 × Int32 × Int32 × SV) : Option ((Int32 × Int32 × Int32 × SV) ⊕ ((Int32 × Int32 × Int32 × SV) ⊕ (Int32 × SV × SV × SV))) :=
  (if x4 ≤ z73.2.2.1 then some (.inr (.inl (z73.1, z73.2.1, z73.2.2.1, z73.2.2.2))) else (if z73.1 = 0 then (m_X2_hasCell v10 (x3 + ((2 : Int32) * z73.2.2.1))).bind (fun y97 => (if y97 = 0 then some (.inl ((2 : Int32), z73.2.1, (z73.2.2.1 + (1 : Int32)), z73.2.2.2)) else (m_X2_hasCell v10 ((x3 + ((2 : Int32) * z73.2.2.1)) + (1 : Int32))).bind (fun y109 => (if y109 = 0 then some (.inl ((2 : Int32), z73.2.1, (z73.2.2.1 + (1 : Int32)), z73.2.2.2)) else ck (inB (x3 + ((2 : Int32) * z73.2.2.1)) 40) (ck (inB ((x3 + ((2 : Int32) * z73.2.2.1)) + (1 : Int32)) 40) ((m_X3_sit z73.2.2.2 (v10 2 (((x3 + ((2 : Int32) * z73.2.2.1))).toNatClampNeg)) (v10 2 ((((x3 + ((2 : Int32) * z73.2.2.1)) + (1 : Int32))).toNatClampNeg))).bind (fun y143 => (if 0 ≤ y143.1 then some (.inl (z73.1, (z73.2.1 + (1 : Int32)), (z73.2.2.1 + (1 : Int32)), y143.2)) else some (.inr (.inr (((-20 : Int32) - z73.2.2.1), v0, v1, y143.2))))))))))) else some (.inr (.inl (z73.1, z73.2.1, z73.2.2.1, z73.2.2.2)))))
noncomputable def m_X5_read_J54_2 (v0 : SV) (v1 : SV) (v2 : SV) (v10 : SV) (x3 : Int32) (x4 : Int32) (z54 : Int32) : Option (Int32 × SV × SV × SV) :=
  (m_X3_becomes v2 v1).bind (fun y67 => (lpC (m_X5_read_L73_2 v0 v1 v10 x3 x4) (z54, (0 : Int32), (0 : Int32), y67)).bind (Sum.elim (m_X5_read_K73_2 v0 v1) (fun y => some y)))
noncomputable def m_X5_read_K73_3 (v0 : SV) (v1 : SV) (z73 : Int32 × Int32 × Int32 × SV) : Option (Int32 × SV × SV × SV) :=
  (m_X3_becomes v1 z73.2.2.2).bind (fun y172 => lett (up2 v0 0 10 z73.1) (fun v59_ => some (z73.2.1, v59_, y172, z73.2.2.2)))
noncomputable def m_X5_read_L73_3 (v0 : SV) (v1 : SV) (v11 : SV) (x3 : Int32) (x4 : Int32) (z73 : Int32 × Int32 × Int32 × SV) : Option ((Int32 × Int32 × Int32 × SV) ⊕ ((Int32 × Int32 × Int32 × SV) ⊕ (Int32 × SV × SV × SV))) :=
  (if x4 ≤ z73.2.2.1 then some (.inr (.inl (z73.1, z73.2.1, z73.2.2.1, z73.2.2.2))) else (if z73.1 = 0 then (m_X2_hasCell v11 (x3 + ((2 : Int32) * z73.2.2.1))).bind (fun y97 => (if y97 = 0 then some (.inl ((2 : Int32), z73.2.1, (z73.2.2.1 + (1 : Int32)), z73.2.2.2)) else (m_X2_hasCell v11 ((x3 + ((2 : Int32) * z73.2.2.1)) + (1 : Int32))).bind (fun y109 => (if y109 = 0 then some (.inl ((2 : Int32), z73.2.1, (z73.2.2.1 + (1 : Int32)), z73.2.2.2)) else ck (inB (x3 + ((2 : Int32) * z73.2.2.1)) 40) (ck (inB ((x3 + ((2 : Int32) * z73.2.2.1)) + (1 : Int32)) 40) ((m_X3_sit z73.2.2.2 (v11 2 (((x3 + ((2 : Int32) * z73.2.2.1))).toNatClampNeg)) (v11 2 ((((x3 + ((2 : Int32) * z73.2.2.1)) + (1 : Int32))).toNatClampNeg))).bind (fun y143 => (if 0 ≤ y143.1 then some (.inl (z73.1, (z73.2.1 + (1 : Int32)), (z73.2.2.1 + (1 : Int32)), y143.2)) else some (.inr (.inr (((-20 : Int32) - z73.2.2.1), v0, v1, y143.2))))))))))) else some (.inr (.inl (z73.1, z73.2.1, z73.2.2.1, z73.2.2.2)))))
noncomputable def m_X5_read_J54_3 (v0 : SV) (v1 : SV) (v2 : SV) (v11 : SV) (x3 : Int32) (x4 : Int32) (z54 : Int32) : Option (Int32 × SV × SV × SV) :=
  (m_X3_becomes v2 v1).bind (fun y67 => (lpC (m_X5_read_L73_3 v0 v1 v11 x3 x4) (z54, (0 : Int32), (0 : Int32), y67)).bind (Sum.elim (m_X5_read_K73_3 v0 v1) (fun y => some y)))
noncomputable def m_X5_read_K73_4 (v0 : SV) (v1 : SV) (z73 : Int32 × Int32 × Int32 × SV) : Option (Int32 × SV × SV × SV) :=
  (m_X3_becomes v1 z73.2.2.2).bind (fun y172 => lett (up2 v0 0 10 z73.1) (fun v82_ => some (z73.2.1, v82_, y172, z73.2.2.2)))
noncomputable def m_X5_read_L73_4 (v0 : SV) (v1 : SV) (v12 : SV) (x3 : Int32) (x4 : Int32) (z73 : Int32 × Int32 × Int32 × SV) : Option ((Int32 × Int32 × Int32 × SV) ⊕ ((Int32 × Int32 × Int32 × SV) ⊕ (Int32 × SV × SV × SV))) :=
  (if x4 ≤ z73.2.2.1 then some (.inr (.inl (z73.1, z73.2.1, z73.2.2.1, z73.2.2.2))) else (if z73.1 = 0 then (m_X2_hasCell v12 (x3 + ((2 : Int32) * z73.2.2.1))).bind (fun y97 => (if y97 = 0 then some (.inl ((2 : Int32), z73.2.1, (z73.2.2.1 + (1 : Int32)), z73.2.2.2)) else (m_X2_hasCell v12 ((x3 + ((2 : Int32) * z73.2.2.1)) + (1 : Int32))).bind (fun y109 => (if y109 = 0 then some (.inl ((2 : Int32), z73.2.1, (z73.2.2.1 + (1 : Int32)), z73.2.2.2)) else ck (inB (x3 + ((2 : Int32) * z73.2.2.1)) 40) (ck (inB ((x3 + ((2 : Int32) * z73.2.2.1)) + (1 : Int32)) 40) ((m_X3_sit z73.2.2.2 (v12 2 (((x3 + ((2 : Int32) * z73.2.2.1))).toNatClampNeg)) (v12 2 ((((x3 + ((2 : Int32) * z73.2.2.1)) + (1 : Int32))).toNatClampNeg))).bind (fun y143 => (if 0 ≤ y143.1 then some (.inl (z73.1, (z73.2.1 + (1 : Int32)), (z73.2.2.1 + (1 : Int32)), y143.2)) else some (.inr (.inr (((-20 : Int32) - z73.2.2.1), v0, v1, y143.2))))))))))) else some (.inr (.inl (z73.1, z73.2.1, z73.2.2.1, z73.2.2.2)))))
noncomputable def m_X5_read_J54_4 (v0 : SV) (v1 : SV) (v2 : SV) (v12 : SV) (x3 : Int32) (x4 : Int32) (z54 : Int32) : Option (Int32 × SV × SV × SV) :=
  (m_X3_becomes v2 v1).bind (fun y67 => (lpC (m_X5_read_L73_4 v0 v1 v12 x3 x4) (z54, (0 : Int32), (0 : Int32), y67)).bind (Sum.elim (m_X5_read_K73_4 v0 v1) (fun y => some y)))
noncomputable def m_X5_read (v0 : SV) (v1 : SV) (v2 : SV) (v9 : SV) (v10 : SV) (v11 : SV) (v12 : SV) (x1 : Int32) (x2 : Int32) (x3 : Int32) (x4 : Int32) : Option (Int32 × SV × SV × SV) :=
  (m_X5_within x1 (0 : Int32) (3 : Int32)).bind (fun y3 => (if y3 = 0 then some ((-1 : Int32), v0, v1, v2) else (m_X5_within x2 (0 : Int32) (2 : Int32)).bind (fun y12 => (if y12 = 0 then some ((-1 : Int32), v0, v1, v2) else (m_X5_within x4 (0 : Int32) (20 : Int32)).bind (fun y23 => (if y23 = 0 then some ((-1 : Int32), v0, v1, v2) else (if x1 = (0 : Int32) then (if x4 = 0 then m_X5_read_J54 v0 v1 v2 v9 x3 x4 (0 : Int32) else (m_X2_faultAs v9 x2).bind (fun y51 => m_X5_read_J54 v0 v1 v2 v9 x3 x4 y51)) else (if x1 = (1 : Int32) then (if x4 = 0 then m_X5_read_J54_2 v0 v1 v2 v10 x3 x4 (0 : Int32) else (m_X2_faultAs v10 x2).bind (fun y51 => m_X5_read_J54_2 v0 v1 v2 v10 x3 x4 y51)) else (if x1 = (2 : Int32) then (if x4 = 0 then m_X5_read_J54_3 v0 v1 v2 v11 x3 x4 (0 : Int32) else (m_X2_faultAs v11 x2).bind (fun y51 => m_X5_read_J54_3 v0 v1 v2 v11 x3 x4 y51)) else (if x1 = (3 : Int32) then (if x4 = 0 then m_X5_read_J54_4 v0 v1 v2 v12 x3 x4 (0 : Int32) else (m_X2_faultAs v12 x2).bind (fun y51 => m_X5_read_J54_4 v0 v1 v2 v12 x3 x4 y51)) else none))))))))))
set_option maxHeartbeats 4000000 in
set_option maxRecDepth 100000 in
theorem c_X5_read (l : Launch) (D : va_G) (q : Nat → ClassId) (sz : Nat) (ad : Nat → Nat → Nat) (v0 : SV) (v1 : SV) (v2 : SV) (v9 : SV) (v10 : SV) (v11 : SV) (v12 : SV) (x1 : Int32) (x2 : Int32) (x3 : Int32) (x4 : Int32) (res : Int32 × SV × SV × SV) (hm : m_X5_read v0 v1 v2 v9 v10 v11 v12 x1 x2 x3 x4 = some res) : Met l yX5_read (mw yX5_read cX5_read 10 (some .int)) ({ frames := 3, cells := 0, slots := 0, locals := 105 } : Room) (pcW D q (wX5 q ad v0 ++ (wX3 q (ad 1) v1 ++ (wX3 q (ad 2) v2 ++ (wX2 q (ad 9) v9 ++ (wX2 q (ad 10) v10 ++ (wX2 q (ad 11) v11 ++ wX2 q (ad 12) v12)))))) sz [.ref (ad 0 99), .int x1, .int x2, .int x3, .int x4]) (va_Qi (fun r w => r = res.1 ∧ w = res.2) (bW D q (wX5 q ad v0 ++ (wX3 q (ad 1) v1 ++ (wX3 q (ad 2) v2 ++ (wX2 q (ad 9) v9 ++ (wX2 q (ad 10) v10 ++ (wX2 q (ad 11) v11 ++ wX2 q (ad 12) v12)))))) sz (fun (uu : SV × SV × SV) => wX5 q ad uu.1 ++ (wX3 q (ad 1) uu.2.1 ++ (wX3 q (ad 2) uu.2.2 ++ (wX2 q (ad 9) v9 ++ (wX2 q (ad 10) v10 ++ (wX2 q (ad 11) v11 ++ wX2 q (ad 12) v12))))))) (va_A (wX5 q ad v0 ++ (wX3 q (ad 1) v1 ++ (wX3 q (ad 2) v2 ++ (wX2 q (ad 9) v9 ++ (wX2 q (ad 10) v10 ++ (wX2 q (ad 11) v11 ++ wX2 q (ad 12) v12)))))) sz)) 0 0 (va_A (wX5 q ad v0 ++ (wX3 q (ad 1) v1 ++ (wX3 q (ad 2) v2 ++ (wX2 q (ad 9) v9 ++ (wX2 q (ad 10) v10 ++ (wX2 q (ad 11) v11 ++ wX2 q (ad 12) v12)))))) sz) := by
  refine Met.ofW (cc := cX5_read) (maxL := 10) (ret := (some .int)) (by decide) rfl ?_
  intro p e s m args below meth c s₁ B hml hv
  obtain ⟨rfl, hsz, hP0, hK, hD0⟩ := hv
  have hx := B.exec
  have hb := B.bytes
  have hr := B.returns
  have hW := mw_ws (atoms_spec (ws := mw yX5_read cX5_read 10 (some .int)) B.pre)
  have hown : s.vm.findClass RX5 = some m.cls := findClass_of_methodNamed B.named
  have hlocks := B.notSynchronized
  have X : Cx p s m [.ref (ad 0 99), .int x1, .int x2, .int x3, .int x4].toArray c cX5_read 10 RX5 D q := ⟨hx, hb, hml, hown, hW, hK⟩
  subst hsz
  replace hD0 := hD0.self (sz := s.heap.size)
  have hS0 : va_S (va_A (wX5 q ad v0 ++ (wX3 q (ad 1) v1 ++ (wX3 q (ad 2) v2 ++ (wX2 q (ad 9) v9 ++ (wX2 q (ad 10) v10 ++ (wX2 q (ad 11) v11 ++ wX2 q (ad 12) v12)))))) s.heap.size) s.heap s.heap [] := va_S.rf
  have hl0 := lv_entry ([.ref (ad 0 99), .int x1, .int x2, .int x3, .int x4]) (n := 10) (Nat.le_of_ble_eq_true rfl)
  rw [lg_entry_eq]
  generalize (lg_sl ([.ref (ad 0 99), .int x1, .int x2, .int x3, .int x4]) ++ List.replicate (10 - (lg_sl ([.ref (ad 0 99), .int x1, .int x2, .int x3, .int x4])).length) Slot.unset).toArray = ls0 at hl0 ⊢
  have hl0 : lv_has ls0 10 [(0, .ref (ad 0 99)), (1, .int x1), (2, .int x2), (3, .int x3), (4, .int x4)] := hl0
  unfold m_X5_read at hm
  refine lv_iload_n hx hb dX5_read_0 rfl (lv_at hl0 1 rfl) ?_
  refine lv_iconst (v := (0 : Int32)) hx hb dX5_read_1 (by decide) ?_
  refine lv_iconst (v := (3 : Int32)) hx hb dX5_read_2 (by decide) ?_
  obtain ⟨y3, hy3, hm⟩ := bn hm
  refine cSRi (As := [.int x1, .int (0 : Int32), .int (3 : Int32)]) (rest := []) X hP0 hl0.1 (c_X5_within l D q x1 (0 : Int32) (3 : Int32) y3 hy3) [] rfl k_346 mX5_within ⟨rfl, rfl⟩ ⟨Nat.le_of_ble_eq_true rfl, Nat.le_of_ble_eq_true rfl⟩ rfl rfl (Nat.le_of_ble_eq_true rfl) dX5_read_3 ⟨Nat.zero_le _, Nat.zero_le _⟩ ?_
  refine lv_if_eq (tgt := 29) hx hb dX5_read_6 (by decide) (fun c6 => ?_) (fun c6 => ?_)
  · replace hm := tp hm c6
    refine lv_iconst (v := (-1 : Int32)) hx hb dX5_read_29 (by decide) ?_
    exact eWi (Wf := fun (uu : SV × SV × SV) => wX5 q ad uu.1 ++ (wX3 q (ad 1) uu.2.1 ++ (wX3 q (ad 2) uu.2.2 ++ (wX2 q (ad 9) v9 ++ (wX2 q (ad 10) v10 ++ (wX2 q (ad 11) v11 ++ wX2 q (ad 12) v12)))))) (u := (v0, v1, v2)) X hr hlocks hP0 hD0 hS0 hm dX5_read_30
  · replace hm := tn hm c6
    refine lv_iload_n hx hb dX5_read_9 rfl (lv_at hl0 2 rfl) ?_
    refine lv_iconst (v := (0 : Int32)) hx hb dX5_read_10 (by decide) ?_
    refine lv_iconst (v := (2 : Int32)) hx hb dX5_read_11 (by decide) ?_
    obtain ⟨y12, hy12, hm⟩ := bn hm
    refine cSRi (As := [.int x2, .int (0 : Int32), .int (2 : Int32)]) (rest := []) X hP0 hl0.1 (c_X5_within l D q x2 (0 : Int32) (2 : Int32) y12 hy12) [] rfl k_346 mX5_within ⟨rfl, rfl⟩ ⟨Nat.le_of_ble_eq_true rfl, Nat.le_of_ble_eq_true rfl⟩ rfl rfl (Nat.le_of_ble_eq_true rfl) dX5_read_12 ⟨Nat.zero_le _, Nat.zero_le _⟩ ?_
    refine lv_if_eq (tgt := 29) hx hb dX5_read_15 (by decide) (fun c15 => ?_) (fun c15 => ?_)
    · replace hm := tp hm c15
      refine lv_iconst (v := (-1 : Int32)) hx hb dX5_read_29 (by decide) ?_
      exact eWi (Wf := fun (uu : SV × SV × SV) => wX5 q ad uu.1 ++ (wX3 q (ad 1) uu.2.1 ++ (wX3 q (ad 2) uu.2.2 ++ (wX2 q (ad 9) v9 ++ (wX2 q (ad 10) v10 ++ (wX2 q (ad 11) v11 ++ wX2 q (ad 12) v12)))))) (u := (v0, v1, v2)) X hr hlocks hP0 hD0 hS0 hm dX5_read_30
    · replace hm := tn hm c15
      refine lv_iload hx hb dX5_read_18 (lv_at hl0 4 rfl) ?_
      refine lv_iconst (v := (0 : Int32)) hx hb dX5_read_20 (by decide) ?_
      refine lv_bipush (v := (20 : Int32)) hx hb dX5_read_21 (by decide) ?_
      obtain ⟨y23, hy23, hm⟩ := bn hm
      refine cSRi (As := [.int x4, .int (0 : Int32), .int (20 : Int32)]) (rest := []) X hP0 hl0.1 (c_X5_within l D q x4 (0 : Int32) (20 : Int32) y23 hy23) [] rfl k_346 mX5_within ⟨rfl, rfl⟩ ⟨Nat.le_of_ble_eq_true rfl, Nat.le_of_ble_eq_true rfl⟩ rfl rfl (Nat.le_of_ble_eq_true rfl) dX5_read_23 ⟨Nat.zero_le _, Nat.zero_le _⟩ ?_
      refine lv_if_ne (tgt := 31) hx hb dX5_read_26 (by decide) (fun c26 => ?_) (fun c26 => ?_)
      · replace hm := tn hm c26
        refine lv_aload_n hx hb dX5_read_31 rfl (lv_at hl0 0 rfl) ?_
        refine va_get (D := D) (ci := 5) (v := .ref (ad 0 7)) (C := RX5) (T := TX5) (N := 11) hx hb hW iX5 hown hK hP0 0 rfl rfl 7 (by decide) (hW _ k_315) (fun _ h => h) rfl dX5_read_32 ?_
        refine lv_iload_n hx hb dX5_read_35 rfl (lv_at hl0 1 rfl) ?_
        by_cases c36_0 : x1 = (0 : Int32)
        · replace hm := tp hm c36_0
          refine r_aald (bb := (ad 9 99)) hx hb hK hP0 3 4 rfl rfl (inB_vp (by rw [c36_0]; decide)) (by rw [c36_0]; rfl) dX5_read_36 ?_
          refine lv_astore (lv' := [(5, .ref (ad 9 99)), (0, .ref (ad 0 99)), (1, .int x1), (2, .int x2), (3, .int x3), (4, .int x4)]) hx hb dX5_read_37 hl0 (by decide) rfl (fun ls1 hl1 => ?_)
          clear hl0
          refine lv_iload hx hb dX5_read_39 (lv_at hl1 5 rfl) ?_
          have hJ54 : ∀ z54 : Int32, m_X5_read_J54 v0 v1 v2 v9 x3 x4 z54 = some res → ∀ (H : Heap) (locs : List Loc), va_P D cls (wX5 q ad v0 ++ (wX3 q (ad 1) v1 ++ (wX3 q (ad 2) v2 ++ (wX2 q (ad 9) v9 ++ (wX2 q (ad 10) v10 ++ (wX2 q (ad 11) v11 ++ wX2 q (ad 12) v12)))))) H → va_D (va_A (wX5 q ad v0 ++ (wX3 q (ad 1) v1 ++ (wX3 q (ad 2) v2 ++ (wX2 q (ad 9) v9 ++ (wX2 q (ad 10) v10 ++ (wX2 q (ad 11) v11 ++ wX2 q (ad 12) v12)))))) s.heap.size) (wX5 q ad v0 ++ (wX3 q (ad 1) v1 ++ (wX3 q (ad 2) v2 ++ (wX2 q (ad 9) v9 ++ (wX2 q (ad 10) v10 ++ (wX2 q (ad 11) v11 ++ wX2 q (ad 12) v12)))))) → va_S (va_A (wX5 q ad v0 ++ (wX3 q (ad 1) v1 ++ (wX3 q (ad 2) v2 ++ (wX2 q (ad 9) v9 ++ (wX2 q (ad 10) v10 ++ (wX2 q (ad 11) v11 ++ wX2 q (ad 12) v12)))))) s.heap.size) s.heap H locs → ∀ ls : Array Slot, lv_has ls 10 [(5, .ref (ad 9 99)), (0, .ref (ad 0 99)), (3, .int x3), (4, .int x4)] → W p l e ((headSpec (mw yX5_read cX5_read 10 (some .int)) ({ frames := 3, cells := 0, slots := 0, locals := 105 } : Room)).room) s m [.ref (ad 0 99), .int x1, .int x2, .int x3, .int x4].toArray below meth c H locs 0 0 (MQ below (va_Qi (fun r w => r = res.1 ∧ w = res.2) (bW D q (wX5 q ad v0 ++ (wX3 q (ad 1) v1 ++ (wX3 q (ad 2) v2 ++ (wX2 q (ad 9) v9 ++ (wX2 q (ad 10) v10 ++ (wX2 q (ad 11) v11 ++ wX2 q (ad 12) v12)))))) s.heap.size (fun (uu : SV × SV × SV) => wX5 q ad uu.1 ++ (wX3 q (ad 1) uu.2.1 ++ (wX3 q (ad 2) uu.2.2 ++ (wX2 q (ad 9) v9 ++ (wX2 q (ad 10) v10 ++ (wX2 q (ad 11) v11 ++ wX2 q (ad 12) v12))))))) (va_A (wX5 q ad v0 ++ (wX3 q (ad 1) v1 ++ (wX3 q (ad 2) v2 ++ (wX2 q (ad 9) v9 ++ (wX2 q (ad 10) v10 ++ (wX2 q (ad 11) v11 ++ wX2 q (ad 12) v12)))))) s.heap.size)) [.ref (ad 0 99), .int x1, .int x2, .int x3, .int x4].toArray s 0 0 (va_A (wX5 q ad v0 ++ (wX3 q (ad 1) v1 ++ (wX3 q (ad 2) v2 ++ (wX2 q (ad 9) v9 ++ (wX2 q (ad 10) v10 ++ (wX2 q (ad 11) v11 ++ wX2 q (ad 12) v12)))))) s.heap.size)) (F0 m 54 ls [.int z54]) := by
            intro z54 hm H3 locs3 hP3 hD3 hS3 ls2 hl2
            unfold m_X5_read_J54 at hm
            refine lv_istore (lv' := [(6, .int z54), (5, .ref (ad 9 99)), (0, .ref (ad 0 99)), (3, .int x3), (4, .int x4)]) hx hb dX5_read_54 hl2 (by decide) rfl (fun ls4 hl4 => ?_)
            clear hl2
            refine lv_iconst (v := (0 : Int32)) hx hb dX5_read_56 (by decide) ?_
            refine lv_istore (lv' := [(7, .int (0 : Int32)), (6, .int z54), (5, .ref (ad 9 99)), (0, .ref (ad 0 99)), (3, .int x3), (4, .int x4)]) hx hb dX5_read_57 hl4 (by decide) rfl (fun ls5 hl5 => ?_)
            clear hl4
            refine lv_aload_n hx hb dX5_read_59 rfl (lv_at hl5 3 rfl) ?_
            refine va_get (D := D) (ci := 5) (v := .ref (ad 2 99)) (C := RX5) (T := TX5) (N := 11) hx hb hW iX5 hown hK hP3 0 rfl rfl 2 (by decide) (hW _ k_310) (fun _ h => h) rfl dX5_read_60 ?_
            refine lv_aload_n hx hb dX5_read_63 rfl (lv_at hl5 3 rfl) ?_
            refine va_get (D := D) (ci := 5) (v := .ref (ad 1 99)) (C := RX5) (T := TX5) (N := 11) hx hb hW iX5 hown hK hP3 0 rfl rfl 1 (by decide) (hW _ k_309) (fun _ h => h) rfl dX5_read_64 ?_
            obtain ⟨y67, hy67, hm⟩ := bn hm
            refine cVWv (As := [.ref (ad 1 99)]) (rest := []) (Wn := fun (uu : SV) => wX5 q ad v0 ++ (wX3 q (ad 1) v1 ++ (wX3 q (ad 2) uu ++ (wX2 q (ad 9) v9 ++ (wX2 q (ad 10) v10 ++ (wX2 q (ad 11) v11 ++ wX2 q (ad 12) v12)))))) X hP3 hD3 hS3 (fun _ h => Or.inr h) hl5.1 (c_X3_becomes l D q H3.size (ad 2) v2 (ad 1) v1 y67 hy67) [18, 19, 20, 21, 22, 23, 24, 25, 26, 27, 28, 29, 6, 7, 8, 9, 10, 11, 12, 13, 14, 15, 16, 17] [0, 1, 2, 3, 4, 5, 30, 31, 32, 33, 34, 35, 36, 37] [0, 1, 2, 3, 4, 5, 26, 27, 28, 29, 30, 31, 32, 33, 34, 35, 36, 37, 14, 15, 16, 17, 18, 19, 20, 21, 22, 23, 24, 25, 6, 7, 8, 9, 10, 11, 12, 13] rfl (Wr := wX5 q ad v0 ++ (wX2 q (ad 9) v9 ++ (wX2 q (ad 10) v10 ++ (wX2 q (ad 11) v11 ++ wX2 q (ad 12) v12)))) rfl (by decide) (by decide) (by decide) (by decide) (fun _ => rfl) 18 rfl rfl rfl k_504 mX3_becomes ⟨rfl, rfl⟩ ⟨Nat.le_of_ble_eq_true rfl, Nat.le_of_ble_eq_true rfl⟩ rfl rfl (Nat.le_of_ble_eq_true rfl) dX5_read_67 ⟨Nat.zero_le _, Nat.zero_le _⟩ (fun H6 locs6 hP hD hS6 => ?_)
            have hP6 : va_P D cls (wX5 q ad v0 ++ (wX3 q (ad 1) v1 ++ (wX3 q (ad 2) y67 ++ (wX2 q (ad 9) v9 ++ (wX2 q (ad 10) v10 ++ (wX2 q (ad 11) v11 ++ wX2 q (ad 12) v12)))))) H6 := hP
            have hD6 : va_D (va_A (wX5 q ad v0 ++ (wX3 q (ad 1) v1 ++ (wX3 q (ad 2) v2 ++ (wX2 q (ad 9) v9 ++ (wX2 q (ad 10) v10 ++ (wX2 q (ad 11) v11 ++ wX2 q (ad 12) v12)))))) s.heap.size) (wX5 q ad v0 ++ (wX3 q (ad 1) v1 ++ (wX3 q (ad 2) y67 ++ (wX2 q (ad 9) v9 ++ (wX2 q (ad 10) v10 ++ (wX2 q (ad 11) v11 ++ wX2 q (ad 12) v12)))))) := hD
            clear hP hD hP3 hD3 hS3
            refine lv_iconst (v := (0 : Int32)) hx hb dX5_read_70 (by decide) ?_
            refine lv_istore (lv' := [(8, .int (0 : Int32)), (7, .int (0 : Int32)), (6, .int z54), (5, .ref (ad 9 99)), (0, .ref (ad 0 99)), (3, .int x3), (4, .int x4)]) hx hb dX5_read_71 hl5 (by decide) rfl (fun ls7 hl7 => ?_)
            clear hl5
            obtain ⟨r73, hr73, hm⟩ := bn hm
            obtain ⟨n73, hn73⟩ := lpC_ex hr73
            have hE73 : ∀ z73 : Int32 × Int32 × Int32 × SV, m_X5_read_K73 v0 v1 z73 = some res → ∀ (H : Heap) (locs : List Loc), va_P D cls (wX5 q ad v0 ++ (wX3 q (ad 1) v1 ++ (wX3 q (ad 2) z73.2.2.2 ++ (wX2 q (ad 9) v9 ++ (wX2 q (ad 10) v10 ++ (wX2 q (ad 11) v11 ++ wX2 q (ad 12) v12)))))) H → va_D (va_A (wX5 q ad v0 ++ (wX3 q (ad 1) v1 ++ (wX3 q (ad 2) v2 ++ (wX2 q (ad 9) v9 ++ (wX2 q (ad 10) v10 ++ (wX2 q (ad 11) v11 ++ wX2 q (ad 12) v12)))))) s.heap.size) (wX5 q ad v0 ++ (wX3 q (ad 1) v1 ++ (wX3 q (ad 2) z73.2.2.2 ++ (wX2 q (ad 9) v9 ++ (wX2 q (ad 10) v10 ++ (wX2 q (ad 11) v11 ++ wX2 q (ad 12) v12)))))) → va_S (va_A (wX5 q ad v0 ++ (wX3 q (ad 1) v1 ++ (wX3 q (ad 2) v2 ++ (wX2 q (ad 9) v9 ++ (wX2 q (ad 10) v10 ++ (wX2 q (ad 11) v11 ++ wX2 q (ad 12) v12)))))) s.heap.size) s.heap H locs → ∀ ls : Array Slot, lv_has ls 10 [(0, .ref (ad 0 99)), (6, .int z73.1), (7, .int z73.2.1)] → W p l e ((headSpec (mw yX5_read cX5_read 10 (some .int)) ({ frames := 3, cells := 0, slots := 0, locals := 105 } : Room)).room) s m [.ref (ad 0 99), .int x1, .int x2, .int x3, .int x4].toArray below meth c H locs 0 0 (MQ below (va_Qi (fun r w => r = res.1 ∧ w = res.2) (bW D q (wX5 q ad v0 ++ (wX3 q (ad 1) v1 ++ (wX3 q (ad 2) v2 ++ (wX2 q (ad 9) v9 ++ (wX2 q (ad 10) v10 ++ (wX2 q (ad 11) v11 ++ wX2 q (ad 12) v12)))))) s.heap.size (fun (uu : SV × SV × SV) => wX5 q ad uu.1 ++ (wX3 q (ad 1) uu.2.1 ++ (wX3 q (ad 2) uu.2.2 ++ (wX2 q (ad 9) v9 ++ (wX2 q (ad 10) v10 ++ (wX2 q (ad 11) v11 ++ wX2 q (ad 12) v12))))))) (va_A (wX5 q ad v0 ++ (wX3 q (ad 1) v1 ++ (wX3 q (ad 2) v2 ++ (wX2 q (ad 9) v9 ++ (wX2 q (ad 10) v10 ++ (wX2 q (ad 11) v11 ++ wX2 q (ad 12) v12)))))) s.heap.size)) [.ref (ad 0 99), .int x1, .int x2, .int x3, .int x4].toArray s 0 0 (va_A (wX5 q ad v0 ++ (wX3 q (ad 1) v1 ++ (wX3 q (ad 2) v2 ++ (wX2 q (ad 9) v9 ++ (wX2 q (ad 10) v10 ++ (wX2 q (ad 11) v11 ++ wX2 q (ad 12) v12)))))) s.heap.size)) (F0 m 164 ls []) := by
              intro z73 hm H11 locs11 hP11 hD11 hS11 ls10 hl10
              unfold m_X5_read_K73 at hm
              refine lv_aload_n hx hb dX5_read_164 rfl (lv_at hl10 0 rfl) ?_
              refine va_get (D := D) (ci := 5) (v := .ref (ad 1 99)) (C := RX5) (T := TX5) (N := 11) hx hb hW iX5 hown hK hP11 0 rfl rfl 1 (by decide) (hW _ k_309) (fun _ h => h) rfl dX5_read_165 ?_
              refine lv_aload_n hx hb dX5_read_168 rfl (lv_at hl10 0 rfl) ?_
              refine va_get (D := D) (ci := 5) (v := .ref (ad 2 99)) (C := RX5) (T := TX5) (N := 11) hx hb hW iX5 hown hK hP11 0 rfl rfl 2 (by decide) (hW _ k_310) (fun _ h => h) rfl dX5_read_169 ?_
              obtain ⟨y172, hy172, hm⟩ := bn hm
              refine cVWv (As := [.ref (ad 2 99)]) (rest := []) (Wn := fun (uu : SV) => wX5 q ad v0 ++ (wX3 q (ad 1) uu ++ (wX3 q (ad 2) z73.2.2.2 ++ (wX2 q (ad 9) v9 ++ (wX2 q (ad 10) v10 ++ (wX2 q (ad 11) v11 ++ wX2 q (ad 12) v12)))))) X hP11 hD11 hS11 (fun _ h => Or.inr h) hl10.1 (c_X3_becomes l D q H11.size (ad 1) v1 (ad 2) z73.2.2.2 y172 hy172) [6, 7, 8, 9, 10, 11, 12, 13, 14, 15, 16, 17, 18, 19, 20, 21, 22, 23, 24, 25, 26, 27, 28, 29] [0, 1, 2, 3, 4, 5, 30, 31, 32, 33, 34, 35, 36, 37] [0, 1, 2, 3, 4, 5, 14, 15, 16, 17, 18, 19, 20, 21, 22, 23, 24, 25, 26, 27, 28, 29, 30, 31, 32, 33, 34, 35, 36, 37, 6, 7, 8, 9, 10, 11, 12, 13] rfl (Wr := wX5 q ad v0 ++ (wX2 q (ad 9) v9 ++ (wX2 q (ad 10) v10 ++ (wX2 q (ad 11) v11 ++ wX2 q (ad 12) v12)))) rfl (by decide) (by decide) (by decide) (by decide) (fun _ => rfl) 6 rfl rfl rfl k_504 mX3_becomes ⟨rfl, rfl⟩ ⟨Nat.le_of_ble_eq_true rfl, Nat.le_of_ble_eq_true rfl⟩ rfl rfl (Nat.le_of_ble_eq_true rfl) dX5_read_172 ⟨Nat.zero_le _, Nat.zero_le _⟩ (fun H12 locs12 hP hD hS12 => ?_)
              have hP12 : va_P D cls (wX5 q ad v0 ++ (wX3 q (ad 1) y172 ++ (wX3 q (ad 2) z73.2.2.2 ++ (wX2 q (ad 9) v9 ++ (wX2 q (ad 10) v10 ++ (wX2 q (ad 11) v11 ++ wX2 q (ad 12) v12)))))) H12 := hP
              have hD12 : va_D (va_A (wX5 q ad v0 ++ (wX3 q (ad 1) v1 ++ (wX3 q (ad 2) v2 ++ (wX2 q (ad 9) v9 ++ (wX2 q (ad 10) v10 ++ (wX2 q (ad 11) v11 ++ wX2 q (ad 12) v12)))))) s.heap.size) (wX5 q ad v0 ++ (wX3 q (ad 1) y172 ++ (wX3 q (ad 2) z73.2.2.2 ++ (wX2 q (ad 9) v9 ++ (wX2 q (ad 10) v10 ++ (wX2 q (ad 11) v11 ++ wX2 q (ad 12) v12)))))) := hD
              clear hP hD hP11 hD11 hS11
              refine lv_aload_n hx hb dX5_read_175 rfl (lv_at hl10 0 rfl) ?_
              refine lv_iload hx hb dX5_read_176 (lv_at hl10 1 rfl) ?_
              refine va_put (D := D) (ci := 5) (v := .int z73.1) (ty := .int) (C := RX5) (T := TX5) (N := 11) hx hb hW iX5 tyX5 tyX5_ok nmX5 hown hK hP12 hD12 hS12 0 rfl rfl 10 (by decide) (hW _ k_318) (fun _ h => h) rfl (by decide +kernel) rfl rfl (Nat.le_of_ble_eq_true rfl) dX5_read_178 (fun H13 locs13 hP hD hS13 => ?_)
              obtain ⟨v13_, e13, hm⟩ := ltd hm
              have hP13 : va_P D cls (wX5 q ad v13_ ++ (wX3 q (ad 1) y172 ++ (wX3 q (ad 2) z73.2.2.2 ++ (wX2 q (ad 9) v9 ++ (wX2 q (ad 10) v10 ++ (wX2 q (ad 11) v11 ++ wX2 q (ad 12) v12)))))) H13 := by rw [e13]; exact hP
              have hD13 : va_D (va_A (wX5 q ad v0 ++ (wX3 q (ad 1) v1 ++ (wX3 q (ad 2) v2 ++ (wX2 q (ad 9) v9 ++ (wX2 q (ad 10) v10 ++ (wX2 q (ad 11) v11 ++ wX2 q (ad 12) v12)))))) s.heap.size) (wX5 q ad v13_ ++ (wX3 q (ad 1) y172 ++ (wX3 q (ad 2) z73.2.2.2 ++ (wX2 q (ad 9) v9 ++ (wX2 q (ad 10) v10 ++ (wX2 q (ad 11) v11 ++ wX2 q (ad 12) v12)))))) := by rw [e13]; exact hD
              clear hP hD hP12 hD12 hS12
              refine lv_iload hx hb dX5_read_181 (lv_at hl10 2 rfl) ?_
              exact eWi (Wf := fun (uu : SV × SV × SV) => wX5 q ad uu.1 ++ (wX3 q (ad 1) uu.2.1 ++ (wX3 q (ad 2) uu.2.2 ++ (wX2 q (ad 9) v9 ++ (wX2 q (ad 10) v10 ++ (wX2 q (ad 11) v11 ++ wX2 q (ad 12) v12)))))) (u := (v13_, y172, z73.2.2.2)) X hr hlocks hP13 hD13 hS13 hm dX5_read_183
            have hL73 : ∀ (n : Nat) (z73 : Int32 × Int32 × Int32 × SV) (ρ73 : (Int32 × Int32 × Int32 × SV) ⊕ (Int32 × SV × SV × SV)), lpO (m_X5_read_L73 v0 v1 v9 x3 x4) n z73 = some ρ73 → (Sum.elim (m_X5_read_K73 v0 v1) (fun y => some y)) ρ73 = some res → ∀ (H : Heap) (locs : List Loc), va_P D cls (wX5 q ad v0 ++ (wX3 q (ad 1) v1 ++ (wX3 q (ad 2) z73.2.2.2 ++ (wX2 q (ad 9) v9 ++ (wX2 q (ad 10) v10 ++ (wX2 q (ad 11) v11 ++ wX2 q (ad 12) v12)))))) H → va_D (va_A (wX5 q ad v0 ++ (wX3 q (ad 1) v1 ++ (wX3 q (ad 2) v2 ++ (wX2 q (ad 9) v9 ++ (wX2 q (ad 10) v10 ++ (wX2 q (ad 11) v11 ++ wX2 q (ad 12) v12)))))) s.heap.size) (wX5 q ad v0 ++ (wX3 q (ad 1) v1 ++ (wX3 q (ad 2) z73.2.2.2 ++ (wX2 q (ad 9) v9 ++ (wX2 q (ad 10) v10 ++ (wX2 q (ad 11) v11 ++ wX2 q (ad 12) v12)))))) → va_S (va_A (wX5 q ad v0 ++ (wX3 q (ad 1) v1 ++ (wX3 q (ad 2) v2 ++ (wX2 q (ad 9) v9 ++ (wX2 q (ad 10) v10 ++ (wX2 q (ad 11) v11 ++ wX2 q (ad 12) v12)))))) s.heap.size) s.heap H locs → ∀ ls : Array Slot, lv_has ls 10 [(5, .ref (ad 9 99)), (0, .ref (ad 0 99)), (3, .int x3), (4, .int x4), (6, .int z73.1), (7, .int z73.2.1), (8, .int z73.2.2.1)] → W p l e ((headSpec (mw yX5_read cX5_read 10 (some .int)) ({ frames := 3, cells := 0, slots := 0, locals := 105 } : Room)).room) s m [.ref (ad 0 99), .int x1, .int x2, .int x3, .int x4].toArray below meth c H locs 0 0 (MQ below (va_Qi (fun r w => r = res.1 ∧ w = res.2) (bW D q (wX5 q ad v0 ++ (wX3 q (ad 1) v1 ++ (wX3 q (ad 2) v2 ++ (wX2 q (ad 9) v9 ++ (wX2 q (ad 10) v10 ++ (wX2 q (ad 11) v11 ++ wX2 q (ad 12) v12)))))) s.heap.size (fun (uu : SV × SV × SV) => wX5 q ad uu.1 ++ (wX3 q (ad 1) uu.2.1 ++ (wX3 q (ad 2) uu.2.2 ++ (wX2 q (ad 9) v9 ++ (wX2 q (ad 10) v10 ++ (wX2 q (ad 11) v11 ++ wX2 q (ad 12) v12))))))) (va_A (wX5 q ad v0 ++ (wX3 q (ad 1) v1 ++ (wX3 q (ad 2) v2 ++ (wX2 q (ad 9) v9 ++ (wX2 q (ad 10) v10 ++ (wX2 q (ad 11) v11 ++ wX2 q (ad 12) v12)))))) s.heap.size)) [.ref (ad 0 99), .int x1, .int x2, .int x3, .int x4].toArray s 0 0 (va_A (wX5 q ad v0 ++ (wX3 q (ad 1) v1 ++ (wX3 q (ad 2) v2 ++ (wX2 q (ad 9) v9 ++ (wX2 q (ad 10) v10 ++ (wX2 q (ad 11) v11 ++ wX2 q (ad 12) v12)))))) s.heap.size)) (F0 m 73 ls []) := by
              intro n
              induction n with
              | zero => intro _ _ h; cases h
              | succ n ih73 =>
                intro z73 ρ73 hz73 hK73 H9 locs9 hP9 hD9 hS9 ls8 hl8
                obtain ⟨t73, hm, hz73⟩ := bn hz73
                unfold m_X5_read_L73 at hm
                refine lv_iload hx hb dX5_read_73 (lv_at hl8 6 rfl) ?_
                refine lv_iload hx hb dX5_read_75 (lv_at hl8 3 rfl) ?_
                refine lv_icmp_ge (tgt := 164) hx hb dX5_read_77 (by decide) (fun c77 => ?_) (fun c77 => ?_)
                · replace hm := tp hm c77
                  cases hm
                  cases hz73
                  exact hE73 (z73.1, z73.2.1, z73.2.2.1, z73.2.2.2) hK73 _ _ hP9 hD9 hS9 _ (lv_sub hl8 [1, 4, 5] rfl)
                · replace hm := tn hm c77
                  refine lv_iload hx hb dX5_read_80 (lv_at hl8 4 rfl) ?_
                  refine lv_if_ne (tgt := 164) hx hb dX5_read_82 (by decide) (fun c82 => ?_) (fun c82 => ?_)
                  · replace hm := tn hm c82
                    cases hm
                    cases hz73
                    exact hE73 (z73.1, z73.2.1, z73.2.2.1, z73.2.2.2) hK73 _ _ hP9 hD9 hS9 _ (lv_sub hl8 [1, 4, 5] rfl)
                  · replace hm := tp hm c82
                    refine lv_iload_n hx hb dX5_read_85 rfl (lv_at hl8 2 rfl) ?_
                    refine lv_iconst (v := (2 : Int32)) hx hb dX5_read_86 (by decide) ?_
                    refine lv_iload hx hb dX5_read_87 (lv_at hl8 6 rfl) ?_
                    refine lv_imul hx hb dX5_read_89 ?_
                    refine lv_iadd hx hb dX5_read_90 ?_
                    refine lv_istore (lv' := [(9, .int (x3 + ((2 : Int32) * z73.2.2.1))), (5, .ref (ad 9 99)), (0, .ref (ad 0 99)), (3, .int x3), (4, .int x4), (6, .int z73.1), (7, .int z73.2.1), (8, .int z73.2.2.1)]) hx hb dX5_read_91 hl8 (by decide) rfl (fun ls14 hl14 => ?_)
                    clear hl8
                    refine lv_aload hx hb dX5_read_93 (lv_at hl14 1 rfl) ?_
                    refine lv_iload hx hb dX5_read_95 (lv_at hl14 0 rfl) ?_
                    obtain ⟨y97, hy97, hm⟩ := bn hm
                    refine cVRi (As := [.int (x3 + ((2 : Int32) * z73.2.2.1))]) (rest := []) X hP9 hl14.1 (c_X2_hasCell l D q (ad 9) v9 (x3 + ((2 : Int32) * z73.2.2.1)) y97 hy97) [30, 31] rfl 30 rfl rfl rfl k_832 mX2_hasCell ⟨rfl, rfl⟩ ⟨Nat.le_of_ble_eq_true rfl, Nat.le_of_ble_eq_true rfl⟩ rfl rfl (Nat.le_of_ble_eq_true rfl) dX5_read_97 ⟨Nat.zero_le _, Nat.zero_le _⟩ ?_
                    refine lv_if_eq (tgt := 115) hx hb dX5_read_100 (by decide) (fun c100 => ?_) (fun c100 => ?_)
                    · replace hm := tp hm c100
                      refine lv_iconst (v := (2 : Int32)) hx hb dX5_read_115 (by decide) ?_
                      refine lv_istore (lv' := [(6, .int (2 : Int32)), (9, .int (x3 + ((2 : Int32) * z73.2.2.1))), (5, .ref (ad 9 99)), (0, .ref (ad 0 99)), (3, .int x3), (4, .int x4), (7, .int z73.2.1), (8, .int z73.2.2.1)]) hx hb dX5_read_116 hl14 (by decide) rfl (fun ls15 hl15 => ?_)
                      clear hl14
                      refine lv_goto (tgt := 158) hx hb dX5_read_118 (by decide) ?_
                      refine lv_iinc (v := (z73.2.2.1 + (1 : Int32))) (lv' := [(8, .int (z73.2.2.1 + (1 : Int32))), (6, .int (2 : Int32)), (9, .int (x3 + ((2 : Int32) * z73.2.2.1))), (5, .ref (ad 9 99)), (0, .ref (ad 0 99)), (3, .int x3), (4, .int x4), (7, .int z73.2.1)]) hx hb dX5_read_158 hl15 (k := 7) rfl rfl (by decide) rfl (fun ls16 hl16 => ?_)
                      clear hl15
                      refine lv_goto (tgt := 73) hx hb dX5_read_161 (by decide) ?_
                      cases hm
                      exact ih73 ((2 : Int32), z73.2.1, (z73.2.2.1 + (1 : Int32)), z73.2.2.2) ρ73 hz73 hK73 _ _ hP9 hD9 hS9 _ (lv_sub hl16 [3, 4, 5, 6, 1, 7, 0] rfl)
                    · replace hm := tn hm c100
                      refine lv_aload hx hb dX5_read_103 (lv_at hl14 1 rfl) ?_
                      refine lv_iload hx hb dX5_read_105 (lv_at hl14 0 rfl) ?_
                      refine lv_iconst (v := (1 : Int32)) hx hb dX5_read_107 (by decide) ?_
                      refine lv_iadd hx hb dX5_read_108 ?_
                      obtain ⟨y109, hy109, hm⟩ := bn hm
                      refine cVRi (As := [.int ((x3 + ((2 : Int32) * z73.2.2.1)) + (1 : Int32))]) (rest := []) X hP9 hl14.1 (c_X2_hasCell l D q (ad 9) v9 ((x3 + ((2 : Int32) * z73.2.2.1)) + (1 : Int32)) y109 hy109) [30, 31] rfl 30 rfl rfl rfl k_832 mX2_hasCell ⟨rfl, rfl⟩ ⟨Nat.le_of_ble_eq_true rfl, Nat.le_of_ble_eq_true rfl⟩ rfl rfl (Nat.le_of_ble_eq_true rfl) dX5_read_109 ⟨Nat.zero_le _, Nat.zero_le _⟩ ?_
                      refine lv_if_ne (tgt := 121) hx hb dX5_read_112 (by decide) (fun c112 => ?_) (fun c112 => ?_)
                      · replace hm := tn hm c112
                        refine lv_aload_n hx hb dX5_read_121 rfl (lv_at hl14 2 rfl) ?_
                        refine va_get (D := D) (ci := 5) (v := .ref (ad 2 99)) (C := RX5) (T := TX5) (N := 11) hx hb hW iX5 hown hK hP9 0 rfl rfl 2 (by decide) (hW _ k_310) (fun _ h => h) rfl dX5_read_122 ?_
                        refine lv_aload hx hb dX5_read_125 (lv_at hl14 1 rfl) ?_
                        refine va_get (D := D) (ci := 2) (v := .ref (ad 9 2)) (C := RX2) (T := TX2) (N := 3) hx hb hW iX2 hown hK hP9 30 rfl rfl 2 (by decide) (hW _ k_300) (fun _ h => h) rfl dX5_read_127 ?_
                        refine lv_iload hx hb dX5_read_130 (lv_at hl14 0 rfl) ?_
                        obtain ⟨h19, hm⟩ := ckd hm
                        refine va_iald (f := (v9 2)) hx hb hK hP9 31 0 rfl rfl (inB_vp h19) dX5_read_132 ?_
                        refine lv_aload hx hb dX5_read_133 (lv_at hl14 1 rfl) ?_
                        refine va_get (D := D) (ci := 2) (v := .ref (ad 9 2)) (C := RX2) (T := TX2) (N := 3) hx hb hW iX2 hown hK hP9 30 rfl rfl 2 (by decide) (hW _ k_300) (fun _ h => h) rfl dX5_read_135 ?_
                        refine lv_iload hx hb dX5_read_138 (lv_at hl14 0 rfl) ?_
                        refine lv_iconst (v := (1 : Int32)) hx hb dX5_read_140 (by decide) ?_
                        refine lv_iadd hx hb dX5_read_141 ?_
                        obtain ⟨h20, hm⟩ := ckd hm
                        refine va_iald (f := (v9 2)) hx hb hK hP9 31 0 rfl rfl (inB_vp h20) dX5_read_142 ?_
                        obtain ⟨y143, hy143, hm⟩ := bn hm
                        refine cVWi (As := [.int (v9 2 (((x3 + ((2 : Int32) * z73.2.2.1))).toNatClampNeg)), .int (v9 2 ((((x3 + ((2 : Int32) * z73.2.2.1)) + (1 : Int32))).toNatClampNeg))]) (rest := []) (Wn := fun (uu : SV) => wX5 q ad v0 ++ (wX3 q (ad 1) v1 ++ (wX3 q (ad 2) uu ++ (wX2 q (ad 9) v9 ++ (wX2 q (ad 10) v10 ++ (wX2 q (ad 11) v11 ++ wX2 q (ad 12) v12)))))) X hP9 hD9 hS9 (fun _ h => Or.inr h) hl14.1 (c_X3_sit l D q H9.size (ad 2) z73.2.2.2 (v9 2 (((x3 + ((2 : Int32) * z73.2.2.1))).toNatClampNeg)) (v9 2 ((((x3 + ((2 : Int32) * z73.2.2.1)) + (1 : Int32))).toNatClampNeg)) y143 hy143) [18, 19, 20, 21, 22, 23, 24, 25, 26, 27, 28, 29] [0, 1, 2, 3, 4, 5, 6, 7, 8, 9, 10, 11, 12, 13, 14, 15, 16, 17, 30, 31, 32, 33, 34, 35, 36, 37] [0, 1, 2, 3, 4, 5, 6, 7, 8, 9, 10, 11, 12, 13, 14, 15, 16, 17, 26, 27, 28, 29, 30, 31, 32, 33, 34, 35, 36, 37, 18, 19, 20, 21, 22, 23, 24, 25] rfl (Wr := wX5 q ad v0 ++ (wX3 q (ad 1) v1 ++ (wX2 q (ad 9) v9 ++ (wX2 q (ad 10) v10 ++ (wX2 q (ad 11) v11 ++ wX2 q (ad 12) v12))))) rfl (by decide) (by decide) (by decide) (by decide) (fun _ => rfl) 18 rfl rfl rfl k_579 mX3_sit ⟨rfl, rfl⟩ ⟨Nat.le_of_ble_eq_true rfl, Nat.le_of_ble_eq_true rfl⟩ rfl rfl (Nat.le_of_ble_eq_true rfl) dX5_read_143 ⟨Nat.zero_le _, Nat.zero_le _⟩ (fun H21 locs21 hP hD hS21 => ?_)
                        have hP21 : va_P D cls (wX5 q ad v0 ++ (wX3 q (ad 1) v1 ++ (wX3 q (ad 2) y143.2 ++ (wX2 q (ad 9) v9 ++ (wX2 q (ad 10) v10 ++ (wX2 q (ad 11) v11 ++ wX2 q (ad 12) v12)))))) H21 := hP
                        have hD21 : va_D (va_A (wX5 q ad v0 ++ (wX3 q (ad 1) v1 ++ (wX3 q (ad 2) v2 ++ (wX2 q (ad 9) v9 ++ (wX2 q (ad 10) v10 ++ (wX2 q (ad 11) v11 ++ wX2 q (ad 12) v12)))))) s.heap.size) (wX5 q ad v0 ++ (wX3 q (ad 1) v1 ++ (wX3 q (ad 2) y143.2 ++ (wX2 q (ad 9) v9 ++ (wX2 q (ad 10) v10 ++ (wX2 q (ad 11) v11 ++ wX2 q (ad 12) v12)))))) := hD
                        clear hP hD hP9 hD9 hS9
                        refine lv_if_ge (tgt := 155) hx hb dX5_read_146 (by decide) (fun c146 => ?_) (fun c146 => ?_)
                        · replace hm := tp hm c146
                          refine lv_iinc (v := (z73.2.1 + (1 : Int32))) (lv' := [(7, .int (z73.2.1 + (1 : Int32))), (9, .int (x3 + ((2 : Int32) * z73.2.2.1))), (5, .ref (ad 9 99)), (0, .ref (ad 0 99)), (3, .int x3), (4, .int x4), (6, .int z73.1), (8, .int z73.2.2.1)]) hx hb dX5_read_155 hl14 (k := 6) rfl rfl (by decide) rfl (fun ls22 hl22 => ?_)
                          clear hl14
                          refine lv_iinc (v := (z73.2.2.1 + (1 : Int32))) (lv' := [(8, .int (z73.2.2.1 + (1 : Int32))), (7, .int (z73.2.1 + (1 : Int32))), (9, .int (x3 + ((2 : Int32) * z73.2.2.1))), (5, .ref (ad 9 99)), (0, .ref (ad 0 99)), (3, .int x3), (4, .int x4), (6, .int z73.1)]) hx hb dX5_read_158 hl22 (k := 7) rfl rfl (by decide) rfl (fun ls23 hl23 => ?_)
                          clear hl22
                          refine lv_goto (tgt := 73) hx hb dX5_read_161 (by decide) ?_
                          cases hm
                          exact ih73 (z73.1, (z73.2.1 + (1 : Int32)), (z73.2.2.1 + (1 : Int32)), y143.2) ρ73 hz73 hK73 _ _ hP21 hD21 hS21 _ (lv_sub hl23 [3, 4, 5, 6, 7, 1, 0] rfl)
                        · replace hm := tn hm c146
                          refine lv_bipush (v := (-20 : Int32)) hx hb dX5_read_149 (by decide) ?_
                          refine lv_iload hx hb dX5_read_151 (lv_at hl14 7 rfl) ?_
                          refine lv_isub hx hb dX5_read_153 ?_
                          cases hm
                          cases hz73
                          have hm : (some (((-20 : Int32) - z73.2.2.1), v0, v1, y143.2) : Option (Int32 × SV × SV × SV)) = some res := hK73
                          exact eWi (Wf := fun (uu : SV × SV × SV) => wX5 q ad uu.1 ++ (wX3 q (ad 1) uu.2.1 ++ (wX3 q (ad 2) uu.2.2 ++ (wX2 q (ad 9) v9 ++ (wX2 q (ad 10) v10 ++ (wX2 q (ad 11) v11 ++ wX2 q (ad 12) v12)))))) (u := (v0, v1, y143.2)) X hr hlocks hP21 hD21 hS21 hm dX5_read_154
                      · replace hm := tp hm c112
                        refine lv_iconst (v := (2 : Int32)) hx hb dX5_read_115 (by decide) ?_
                        refine lv_istore (lv' := [(6, .int (2 : Int32)), (9, .int (x3 + ((2 : Int32) * z73.2.2.1))), (5, .ref (ad 9 99)), (0, .ref (ad 0 99)), (3, .int x3), (4, .int x4), (7, .int z73.2.1), (8, .int z73.2.2.1)]) hx hb dX5_read_116 hl14 (by decide) rfl (fun ls17 hl17 => ?_)
                        clear hl14
                        refine lv_goto (tgt := 158) hx hb dX5_read_118 (by decide) ?_
                        refine lv_iinc (v := (z73.2.2.1 + (1 : Int32))) (lv' := [(8, .int (z73.2.2.1 + (1 : Int32))), (6, .int (2 : Int32)), (9, .int (x3 + ((2 : Int32) * z73.2.2.1))), (5, .ref (ad 9 99)), (0, .ref (ad 0 99)), (3, .int x3), (4, .int x4), (7, .int z73.2.1)]) hx hb dX5_read_158 hl17 (k := 7) rfl rfl (by decide) rfl (fun ls18 hl18 => ?_)
                        clear hl17
                        refine lv_goto (tgt := 73) hx hb dX5_read_161 (by decide) ?_
                        cases hm
                        exact ih73 ((2 : Int32), z73.2.1, (z73.2.2.1 + (1 : Int32)), z73.2.2.2) ρ73 hz73 hK73 _ _ hP9 hD9 hS9 _ (lv_sub hl18 [3, 4, 5, 6, 1, 7, 0] rfl)
            exact hL73 n73 (z54, (0 : Int32), (0 : Int32), y67) r73 hn73 hm _ _ hP6 hD6 hS6 _ (lv_sub hl7 [3, 4, 5, 6, 2, 1, 0] rfl)
          refine lv_if_ne (tgt := 48) hx hb dX5_read_41 (by decide) (fun c41 => ?_) (fun c41 => ?_)
          · replace hm := tn hm c41
            refine lv_aload hx hb dX5_read_48 (lv_at hl1 0 rfl) ?_
            refine lv_iload_n hx hb dX5_read_50 rfl (lv_at hl1 3 rfl) ?_
            obtain ⟨y51, hy51, hm⟩ := bn hm
            refine cVRi (As := [.int x2]) (rest := []) X hP0 hl1.1 (c_X2_faultAs l D q (ad 9) v9 x2 y51 hy51) [30, 31] rfl 30 rfl rfl rfl k_844 mX2_faultAs ⟨rfl, rfl⟩ ⟨Nat.le_of_ble_eq_true rfl, Nat.le_of_ble_eq_true rfl⟩ rfl rfl (Nat.le_of_ble_eq_true rfl) dX5_read_51 ⟨Nat.zero_le _, Nat.zero_le _⟩ ?_
            exact hJ54 y51 hm _ _ hP0 hD0 hS0 _ (lv_sub hl1 [0, 1, 4, 5] rfl)
          · replace hm := tp hm c41
            refine lv_iconst (v := (0 : Int32)) hx hb dX5_read_44 (by decide) ?_
            refine lv_goto (tgt := 54) hx hb dX5_read_45 (by decide) ?_
            exact hJ54 (0 : Int32) hm _ _ hP0 hD0 hS0 _ (lv_sub hl1 [0, 1, 4, 5] rfl)
        · replace hm := tn hm c36_0
          by_cases c36_1 : x1 = (1 : Int32)
          · replace hm := tp hm c36_1
            refine r_aald (bb := (ad 10 99)) hx hb hK hP0 3 4 rfl rfl (inB_vp (by rw [c36_1]; decide)) (by rw [c36_1]; rfl) dX5_read_36 ?_
            refine lv_astore (lv' := [(5, .ref (ad 10 99)), (0, .ref (ad 0 99)), (1, .int x1), (2, .int x2), (3, .int x3), (4, .int x4)]) hx hb dX5_read_37 hl0 (by decide) rfl (fun ls24 hl24 => ?_)
            clear hl0
            refine lv_iload hx hb dX5_read_39 (lv_at hl24 5 rfl) ?_
            have hJ54 : ∀ z54 : Int32, m_X5_read_J54_2 v0 v1 v2 v10 x3 x4 z54 = some res → ∀ (H : Heap) (locs : List Loc), va_P D cls (wX5 q ad v0 ++ (wX3 q (ad 1) v1 ++ (wX3 q (ad 2) v2 ++ (wX2 q (ad 9) v9 ++ (wX2 q (ad 10) v10 ++ (wX2 q (ad 11) v11 ++ wX2 q (ad 12) v12)))))) H → va_D (va_A (wX5 q ad v0 ++ (wX3 q (ad 1) v1 ++ (wX3 q (ad 2) v2 ++ (wX2 q (ad 9) v9 ++ (wX2 q (ad 10) v10 ++ (wX2 q (ad 11) v11 ++ wX2 q (ad 12) v12)))))) s.heap.size) (wX5 q ad v0 ++ (wX3 q (ad 1) v1 ++ (wX3 q (ad 2) v2 ++ (wX2 q (ad 9) v9 ++ (wX2 q (ad 10) v10 ++ (wX2 q (ad 11) v11 ++ wX2 q (ad 12) v12)))))) → va_S (va_A (wX5 q ad v0 ++ (wX3 q (ad 1) v1 ++ (wX3 q (ad 2) v2 ++ (wX2 q (ad 9) v9 ++ (wX2 q (ad 10) v10 ++ (wX2 q (ad 11) v11 ++ wX2 q (ad 12) v12)))))) s.heap.size) s.heap H locs → ∀ ls : Array Slot, lv_has ls 10 [(5, .ref (ad 10 99)), (0, .ref (ad 0 99)), (3, .int x3), (4, .int x4)] → W p l e ((headSpec (mw yX5_read cX5_read 10 (some .int)) ({ frames := 3, cells := 0, slots := 0, locals := 105 } : Room)).room) s m [.ref (ad 0 99), .int x1, .int x2, .int x3, .int x4].toArray below meth c H locs 0 0 (MQ below (va_Qi (fun r w => r = res.1 ∧ w = res.2) (bW D q (wX5 q ad v0 ++ (wX3 q (ad 1) v1 ++ (wX3 q (ad 2) v2 ++ (wX2 q (ad 9) v9 ++ (wX2 q (ad 10) v10 ++ (wX2 q (ad 11) v11 ++ wX2 q (ad 12) v12)))))) s.heap.size (fun (uu : SV × SV × SV) => wX5 q ad uu.1 ++ (wX3 q (ad 1) uu.2.1 ++ (wX3 q (ad 2) uu.2.2 ++ (wX2 q (ad 9) v9 ++ (wX2 q (ad 10) v10 ++ (wX2 q (ad 11) v11 ++ wX2 q (ad 12) v12))))))) (va_A (wX5 q ad v0 ++ (wX3 q (ad 1) v1 ++ (wX3 q (ad 2) v2 ++ (wX2 q (ad 9) v9 ++ (wX2 q (ad 10) v10 ++ (wX2 q (ad 11) v11 ++ wX2 q (ad 12) v12)))))) s.heap.size)) [.ref (ad 0 99), .int x1, .int x2, .int x3, .int x4].toArray s 0 0 (va_A (wX5 q ad v0 ++ (wX3 q (ad 1) v1 ++ (wX3 q (ad 2) v2 ++ (wX2 q (ad 9) v9 ++ (wX2 q (ad 10) v10 ++ (wX2 q (ad 11) v11 ++ wX2 q (ad 12) v12)))))) s.heap.size)) (F0 m 54 ls [.int z54]) := by
              intro z54 hm H26 locs26 hP26 hD26 hS26 ls25 hl25
              unfold m_X5_read_J54_2 at hm
              refine lv_istore (lv' := [(6, .int z54), (5, .ref (ad 10 99)), (0, .ref (ad 0 99)), (3, .int x3), (4, .int x4)]) hx hb dX5_read_54 hl25 (by decide) rfl (fun ls27 hl27 => ?_)
              clear hl25
              refine lv_iconst (v := (0 : Int32)) hx hb dX5_read_56 (by decide) ?_
              refine lv_istore (lv' := [(7, .int (0 : Int32)), (6, .int z54), (5, .ref (ad 10 99)), (0, .ref (ad 0 99)), (3, .int x3), (4, .int x4)]) hx hb dX5_read_57 hl27 (by decide) rfl (fun ls28 hl28 => ?_)
              clear hl27
              refine lv_aload_n hx hb dX5_read_59 rfl (lv_at hl28 3 rfl) ?_
              refine va_get (D := D) (ci := 5) (v := .ref (ad 2 99)) (C := RX5) (T := TX5) (N := 11) hx hb hW iX5 hown hK hP26 0 rfl rfl 2 (by decide) (hW _ k_310) (fun _ h => h) rfl dX5_read_60 ?_
              refine lv_aload_n hx hb dX5_read_63 rfl (lv_at hl28 3 rfl) ?_
              refine va_get (D := D) (ci := 5) (v := .ref (ad 1 99)) (C := RX5) (T := TX5) (N := 11) hx hb hW iX5 hown hK hP26 0 rfl rfl 1 (by decide) (hW _ k_309) (fun _ h => h) rfl dX5_read_64 ?_
              obtain ⟨y67, hy67, hm⟩ := bn hm
              refine cVWv (As := [.ref (ad 1 99)]) (rest := []) (Wn := fun (uu : SV) => wX5 q ad v0 ++ (wX3 q (ad 1) v1 ++ (wX3 q (ad 2) uu ++ (wX2 q (ad 9) v9 ++ (wX2 q (ad 10) v10 ++ (wX2 q (ad 11) v11 ++ wX2 q (ad 12) v12)))))) X hP26 hD26 hS26 (fun _ h => Or.inr h) hl28.1 (c_X3_becomes l D q H26.size (ad 2) v2 (ad 1) v1 y67 hy67) [18, 19, 20, 21, 22, 23, 24, 25, 26, 27, 28, 29, 6, 7, 8, 9, 10, 11, 12, 13, 14, 15, 16, 17] [0, 1, 2, 3, 4, 5, 30, 31, 32, 33, 34, 35, 36, 37] [0, 1, 2, 3, 4, 5, 26, 27, 28, 29, 30, 31, 32, 33, 34, 35, 36, 37, 14, 15, 16, 17, 18, 19, 20, 21, 22, 23, 24, 25, 6, 7, 8, 9, 10, 11, 12, 13] rfl (Wr := wX5 q ad v0 ++ (wX2 q (ad 9) v9 ++ (wX2 q (ad 10) v10 ++ (wX2 q (ad 11) v11 ++ wX2 q (ad 12) v12)))) rfl (by decide) (by decide) (by decide) (by decide) (fun _ => rfl) 18 rfl rfl rfl k_504 mX3_becomes ⟨rfl, rfl⟩ ⟨Nat.le_of_ble_eq_true rfl, Nat.le_of_ble_eq_true rfl⟩ rfl rfl (Nat.le_of_ble_eq_true rfl) dX5_read_67 ⟨Nat.zero_le _, Nat.zero_le _⟩ (fun H29 locs29 hP hD hS29 => ?_)
              have hP29 : va_P D cls (wX5 q ad v0 ++ (wX3 q (ad 1) v1 ++ (wX3 q (ad 2) y67 ++ (wX2 q (ad 9) v9 ++ (wX2 q (ad 10) v10 ++ (wX2 q (ad 11) v11 ++ wX2 q (ad 12) v12)))))) H29 := hP
              have hD29 : va_D (va_A (wX5 q ad v0 ++ (wX3 q (ad 1) v1 ++ (wX3 q (ad 2) v2 ++ (wX2 q (ad 9) v9 ++ (wX2 q (ad 10) v10 ++ (wX2 q (ad 11) v11 ++ wX2 q (ad 12) v12)))))) s.heap.size) (wX5 q ad v0 ++ (wX3 q (ad 1) v1 ++ (wX3 q (ad 2) y67 ++ (wX2 q (ad 9) v9 ++ (wX2 q (ad 10) v10 ++ (wX2 q (ad 11) v11 ++ wX2 q (ad 12) v12)))))) := hD
              clear hP hD hP26 hD26 hS26
              refine lv_iconst (v := (0 : Int32)) hx hb dX5_read_70 (by decide) ?_
              refine lv_istore (lv' := [(8, .int (0 : Int32)), (7, .int (0 : Int32)), (6, .int z54), (5, .ref (ad 10 99)), (0, .ref (ad 0 99)), (3, .int x3), (4, .int x4)]) hx hb dX5_read_71 hl28 (by decide) rfl (fun ls30 hl30 => ?_)
              clear hl28
              obtain ⟨r73, hr73, hm⟩ := bn hm
              obtain ⟨n73, hn73⟩ := lpC_ex hr73
              have hE73 : ∀ z73 : Int32 × Int32 × Int32 × SV, m_X5_read_K73_2 v0 v1 z73 = some res → ∀ (H : Heap) (locs : List Loc), va_P D cls (wX5 q ad v0 ++ (wX3 q (ad 1) v1 ++ (wX3 q (ad 2) z73.2.2.2 ++ (wX2 q (ad 9) v9 ++ (wX2 q (ad 10) v10 ++ (wX2 q (ad 11) v11 ++ wX2 q (ad 12) v12)))))) H → va_D (va_A (wX5 q ad v0 ++ (wX3 q (ad 1) v1 ++ (wX3 q (ad 2) v2 ++ (wX2 q (ad 9) v9 ++ (wX2 q (ad 10) v10 ++ (wX2 q (ad 11) v11 ++ wX2 q (ad 12) v12)))))) s.heap.size) (wX5 q ad v0 ++ (wX3 q (ad 1) v1 ++ (wX3 q (ad 2) z73.2.2.2 ++ (wX2 q (ad 9) v9 ++ (wX2 q (ad 10) v10 ++ (wX2 q (ad 11) v11 ++ wX2 q (ad 12) v12)))))) → va_S (va_A (wX5 q ad v0 ++ (wX3 q (ad 1) v1 ++ (wX3 q (ad 2) v2 ++ (wX2 q (ad 9) v9 ++ (wX2 q (ad 10) v10 ++ (wX2 q (ad 11) v11 ++ wX2 q (ad 12) v12)))))) s.heap.size) s.heap H locs → ∀ ls : Array Slot, lv_has ls 10 [(0, .ref (ad 0 99)), (6, .int z73.1), (7, .int z73.2.1)] → W p l e ((headSpec (mw yX5_read cX5_read 10 (some .int)) ({ frames := 3, cells := 0, slots := 0, locals := 105 } : Room)).room) s m [.ref (ad 0 99), .int x1, .int x2, .int x3, .int x4].toArray below meth c H locs 0 0 (MQ below (va_Qi (fun r w => r = res.1 ∧ w = res.2) (bW D q (wX5 q ad v0 ++ (wX3 q (ad 1) v1 ++ (wX3 q (ad 2) v2 ++ (wX2 q (ad 9) v9 ++ (wX2 q (ad 10) v10 ++ (wX2 q (ad 11) v11 ++ wX2 q (ad 12) v12)))))) s.heap.size (fun (uu : SV × SV × SV) => wX5 q ad uu.1 ++ (wX3 q (ad 1) uu.2.1 ++ (wX3 q (ad 2) uu.2.2 ++ (wX2 q (ad 9) v9 ++ (wX2 q (ad 10) v10 ++ (wX2 q (ad 11) v11 ++ wX2 q (ad 12) v12))))))) (va_A (wX5 q ad v0 ++ (wX3 q (ad 1) v1 ++ (wX3 q (ad 2) v2 ++ (wX2 q (ad 9) v9 ++ (wX2 q (ad 10) v10 ++ (wX2 q (ad 11) v11 ++ wX2 q (ad 12) v12)))))) s.heap.size)) [.ref (ad 0 99), .int x1, .int x2, .int x3, .int x4].toArray s 0 0 (va_A (wX5 q ad v0 ++ (wX3 q (ad 1) v1 ++ (wX3 q (ad 2) v2 ++ (wX2 q (ad 9) v9 ++ (wX2 q (ad 10) v10 ++ (wX2 q (ad 11) v11 ++ wX2 q (ad 12) v12)))))) s.heap.size)) (F0 m 164 ls []) := by
                intro z73 hm H34 locs34 hP34 hD34 hS34 ls33 hl33
                unfold m_X5_read_K73_2 at hm
                refine lv_aload_n hx hb dX5_read_164 rfl (lv_at hl33 0 rfl) ?_
                refine va_get (D := D) (ci := 5) (v := .ref (ad 1 99)) (C := RX5) (T := TX5) (N := 11) hx hb hW iX5 hown hK hP34 0 rfl rfl 1 (by decide) (hW _ k_309) (fun _ h => h) rfl dX5_read_165 ?_
                refine lv_aload_n hx hb dX5_read_168 rfl (lv_at hl33 0 rfl) ?_
                refine va_get (D := D) (ci := 5) (v := .ref (ad 2 99)) (C := RX5) (T := TX5) (N := 11) hx hb hW iX5 hown hK hP34 0 rfl rfl 2 (by decide) (hW _ k_310) (fun _ h => h) rfl dX5_read_169 ?_
                obtain ⟨y172, hy172, hm⟩ := bn hm
                refine cVWv (As := [.ref (ad 2 99)]) (rest := []) (Wn := fun (uu : SV) => wX5 q ad v0 ++ (wX3 q (ad 1) uu ++ (wX3 q (ad 2) z73.2.2.2 ++ (wX2 q (ad 9) v9 ++ (wX2 q (ad 10) v10 ++ (wX2 q (ad 11) v11 ++ wX2 q (ad 12) v12)))))) X hP34 hD34 hS34 (fun _ h => Or.inr h) hl33.1 (c_X3_becomes l D q H34.size (ad 1) v1 (ad 2) z73.2.2.2 y172 hy172) [6, 7, 8, 9, 10, 11, 12, 13, 14, 15, 16, 17, 18, 19, 20, 21, 22, 23, 24, 25, 26, 27, 28, 29] [0, 1, 2, 3, 4, 5, 30, 31, 32, 33, 34, 35, 36, 37] [0, 1, 2, 3, 4, 5, 14, 15, 16, 17, 18, 19, 20, 21, 22, 23, 24, 25, 26, 27, 28, 29, 30, 31, 32, 33, 34, 35, 36, 37, 6, 7, 8, 9, 10, 11, 12, 13] rfl (Wr := wX5 q ad v0 ++ (wX2 q (ad 9) v9 ++ (wX2 q (ad 10) v10 ++ (wX2 q (ad 11) v11 ++ wX2 q (ad 12) v12)))) rfl (by decide) (by decide) (by decide) (by decide) (fun _ => rfl) 6 rfl rfl rfl k_504 mX3_becomes ⟨rfl, rfl⟩ ⟨Nat.le_of_ble_eq_true rfl, Nat.le_of_ble_eq_true rfl⟩ rfl rfl (Nat.le_of_ble_eq_true rfl) dX5_read_172 ⟨Nat.zero_le _, Nat.zero_le _⟩ (fun H35 locs35 hP hD hS35 => ?_)
                have hP35 : va_P D cls (wX5 q ad v0 ++ (wX3 q (ad 1) y172 ++ (wX3 q (ad 2) z73.2.2.2 ++ (wX2 q (ad 9) v9 ++ (wX2 q (ad 10) v10 ++ (wX2 q (ad 11) v11 ++ wX2 q (ad 12) v12)))))) H35 := hP
                have hD35 : va_D (va_A (wX5 q ad v0 ++ (wX3 q (ad 1) v1 ++ (wX3 q (ad 2) v2 ++ (wX2 q (ad 9) v9 ++ (wX2 q (ad 10) v10 ++ (wX2 q (ad 11) v11 ++ wX2 q (ad 12) v12)))))) s.heap.size) (wX5 q ad v0 ++ (wX3 q (ad 1) y172 ++ (wX3 q (ad 2) z73.2.2.2 ++ (wX2 q (ad 9) v9 ++ (wX2 q (ad 10) v10 ++ (wX2 q (ad 11) v11 ++ wX2 q (ad 12) v12)))))) := hD
                clear hP hD hP34 hD34 hS34
                refine lv_aload_n hx hb dX5_read_175 rfl (lv_at hl33 0 rfl) ?_
                refine lv_iload hx hb dX5_read_176 (lv_at hl33 1 rfl) ?_
                refine va_put (D := D) (ci := 5) (v := .int z73.1) (ty := .int) (C := RX5) (T := TX5) (N := 11) hx hb hW iX5 tyX5 tyX5_ok nmX5 hown hK hP35 hD35 hS35 0 rfl rfl 10 (by decide) (hW _ k_318) (fun _ h => h) rfl (by decide +kernel) rfl rfl (Nat.le_of_ble_eq_true rfl) dX5_read_178 (fun H36 locs36 hP hD hS36 => ?_)
                obtain ⟨v36_, e36, hm⟩ := ltd hm
                have hP36 : va_P D cls (wX5 q ad v36_ ++ (wX3 q (ad 1) y172 ++ (wX3 q (ad 2) z73.2.2.2 ++ (wX2 q (ad 9) v9 ++ (wX2 q (ad 10) v10 ++ (wX2 q (ad 11) v11 ++ wX2 q (ad 12) v12)))))) H36 := by rw [e36]; exact hP
                have hD36 : va_D (va_A (wX5 q ad v0 ++ (wX3 q (ad 1) v1 ++ (wX3 q (ad 2) v2 ++ (wX2 q (ad 9) v9 ++ (wX2 q (ad 10) v10 ++ (wX2 q (ad 11) v11 ++ wX2 q (ad 12) v12)))))) s.heap.size) (wX5 q ad v36_ ++ (wX3 q (ad 1) y172 ++ (wX3 q (ad 2) z73.2.2.2 ++ (wX2 q (ad 9) v9 ++ (wX2 q (ad 10) v10 ++ (wX2 q (ad 11) v11 ++ wX2 q (ad 12) v12)))))) := by rw [e36]; exact hD
                clear hP hD hP35 hD35 hS35
                refine lv_iload hx hb dX5_read_181 (lv_at hl33 2 rfl) ?_
                exact eWi (Wf := fun (uu : SV × SV × SV) => wX5 q ad uu.1 ++ (wX3 q (ad 1) uu.2.1 ++ (wX3 q (ad 2) uu.2.2 ++ (wX2 q (ad 9) v9 ++ (wX2 q (ad 10) v10 ++ (wX2 q (ad 11) v11 ++ wX2 q (ad 12) v12)))))) (u := (v36_, y172, z73.2.2.2)) X hr hlocks hP36 hD36 hS36 hm dX5_read_183
              have hL73 : ∀ (n : Nat) (z73 : Int32 × Int32 × Int32 × SV) (ρ73 : (Int32 × Int32 × Int32 × SV) ⊕ (Int32 × SV × SV × SV)), lpO (m_X5_read_L73_2 v0 v1 v10 x3 x4) n z73 = some ρ73 → (Sum.elim (m_X5_read_K73_2 v0 v1) (fun y => some y)) ρ73 = some res → ∀ (H : Heap) (locs : List Loc), va_P D cls (wX5 q ad v0 ++ (wX3 q (ad 1) v1 ++ (wX3 q (ad 2) z73.2.2.2 ++ (wX2 q (ad 9) v9 ++ (wX2 q (ad 10) v10 ++ (wX2 q (ad 11) v11 ++ wX2 q (ad 12) v12)))))) H → va_D (va_A (wX5 q ad v0 ++ (wX3 q (ad 1) v1 ++ (wX3 q (ad 2) v2 ++ (wX2 q (ad 9) v9 ++ (wX2 q (ad 10) v10 ++ (wX2 q (ad 11) v11 ++ wX2 q (ad 12) v12)))))) s.heap.size) (wX5 q ad v0 ++ (wX3 q (ad 1) v1 ++ (wX3 q (ad 2) z73.2.2.2 ++ (wX2 q (ad 9) v9 ++ (wX2 q (ad 10) v10 ++ (wX2 q (ad 11) v11 ++ wX2 q (ad 12) v12)))))) → va_S (va_A (wX5 q ad v0 ++ (wX3 q (ad 1) v1 ++ (wX3 q (ad 2) v2 ++ (wX2 q (ad 9) v9 ++ (wX2 q (ad 10) v10 ++ (wX2 q (ad 11) v11 ++ wX2 q (ad 12) v12)))))) s.heap.size) s.heap H locs → ∀ ls : Array Slot, lv_has ls 10 [(5, .ref (ad 10 99)), (0, .ref (ad 0 99)), (3, .int x3), (4, .int x4), (6, .int z73.1), (7, .int z73.2.1), (8, .int z73.2.2.1)] → W p l e ((headSpec (mw yX5_read cX5_read 10 (some .int)) ({ frames := 3, cells := 0, slots := 0, locals := 105 } : Room)).room) s m [.ref (ad 0 99), .int x1, .int x2, .int x3, .int x4].toArray below meth c H locs 0 0 (MQ below (va_Qi (fun r w => r = res.1 ∧ w = res.2) (bW D q (wX5 q ad v0 ++ (wX3 q (ad 1) v1 ++ (wX3 q (ad 2) v2 ++ (wX2 q (ad 9) v9 ++ (wX2 q (ad 10) v10 ++ (wX2 q (ad 11) v11 ++ wX2 q (ad 12) v12)))))) s.heap.size (fun (uu : SV × SV × SV) => wX5 q ad uu.1 ++ (wX3 q (ad 1) uu.2.1 ++ (wX3 q (ad 2) uu.2.2 ++ (wX2 q (ad 9) v9 ++ (wX2 q (ad 10) v10 ++ (wX2 q (ad 11) v11 ++ wX2 q (ad 12) v12))))))) (va_A (wX5 q ad v0 ++ (wX3 q (ad 1) v1 ++ (wX3 q (ad 2) v2 ++ (wX2 q (ad 9) v9 ++ (wX2 q (ad 10) v10 ++ (wX2 q (ad 11) v11 ++ wX2 q (ad 12) v12)))))) s.heap.size)) [.ref (ad 0 99), .int x1, .int x2, .int x3, .int x4].toArray s 0 0 (va_A (wX5 q ad v0 ++ (wX3 q (ad 1) v1 ++ (wX3 q (ad 2) v2 ++ (wX2 q (ad 9) v9 ++ (wX2 q (ad 10) v10 ++ (wX2 q (ad 11) v11 ++ wX2 q (ad 12) v12)))))) s.heap.size)) (F0 m 73 ls []) := by
                intro n
                induction n with
                | zero => intro _ _ h; cases h
                | succ n ih73 =>
                  intro z73 ρ73 hz73 hK73 H32 locs32 hP32 hD32 hS32 ls31 hl31
                  obtain ⟨t73, hm, hz73⟩ := bn hz73
                  unfold m_X5_read_L73_2 at hm
                  refine lv_iload hx hb dX5_read_73 (lv_at hl31 6 rfl) ?_
                  refine lv_iload hx hb dX5_read_75 (lv_at hl31 3 rfl) ?_
                  refine lv_icmp_ge (tgt := 164) hx hb dX5_read_77 (by decide) (fun c77 => ?_) (fun c77 => ?_)
                  · replace hm := tp hm c77
                    cases hm
                    cases hz73
                    exact hE73 (z73.1, z73.2.1, z73.2.2.1, z73.2.2.2) hK73 _ _ hP32 hD32 hS32 _ (lv_sub hl31 [1, 4, 5] rfl)
                  · replace hm := tn hm c77
                    refine lv_iload hx hb dX5_read_80 (lv_at hl31 4 rfl) ?_
                    refine lv_if_ne (tgt := 164) hx hb dX5_read_82 (by decide) (fun c82 => ?_) (fun c82 => ?_)
                    · replace hm := tn hm c82
                      cases hm
                      cases hz73
                      exact hE73 (z73.1, z73.2.1, z73.2.2.1, z73.2.2.2) hK73 _ _ hP32 hD32 hS32 _ (lv_sub hl31 [1, 4, 5] rfl)
                    · replace hm := tp hm c82
                      refine lv_iload_n hx hb dX5_read_85 rfl (lv_at hl31 2 rfl) ?_
                      refine lv_iconst (v := (2 : Int32)) hx hb dX5_read_86 (by decide) ?_
                      refine lv_iload hx hb dX5_read_87 (lv_at hl31 6 rfl) ?_
                      refine lv_imul hx hb dX5_read_89 ?_
                      refine lv_iadd hx hb dX5_read_90 ?_
                      refine lv_istore (lv' := [(9, .int (x3 + ((2 : Int32) * z73.2.2.1))), (5, .ref (ad 10 99)), (0, .ref (ad 0 99)), (3, .int x3), (4, .int x4), (6, .int z73.1), (7, .int z73.2.1), (8, .int z73.2.2.1)]) hx hb dX5_read_91 hl31 (by decide) rfl (fun ls37 hl37 => ?_)
                      clear hl31
                      refine lv_aload hx hb dX5_read_93 (lv_at hl37 1 rfl) ?_
                      refine lv_iload hx hb dX5_read_95 (lv_at hl37 0 rfl) ?_
                      obtain ⟨y97, hy97, hm⟩ := bn hm
                      refine cVRi (As := [.int (x3 + ((2 : Int32) * z73.2.2.1))]) (rest := []) X hP32 hl37.1 (c_X2_hasCell l D q (ad 10) v10 (x3 + ((2 : Int32) * z73.2.2.1)) y97 hy97) [32, 33] rfl 32 rfl rfl rfl k_832 mX2_hasCell ⟨rfl, rfl⟩ ⟨Nat.le_of_ble_eq_true rfl, Nat.le_of_ble_eq_true rfl⟩ rfl rfl (Nat.le_of_ble_eq_true rfl) dX5_read_97 ⟨Nat.zero_le _, Nat.zero_le _⟩ ?_
                      refine lv_if_eq (tgt := 115) hx hb dX5_read_100 (by decide) (fun c100 => ?_) (fun c100 => ?_)
                      · replace hm := tp hm c100
                        refine lv_iconst (v := (2 : Int32)) hx hb dX5_read_115 (by decide) ?_
                        refine lv_istore (lv' := [(6, .int (2 : Int32)), (9, .int (x3 + ((2 : Int32) * z73.2.2.1))), (5, .ref (ad 10 99)), (0, .ref (ad 0 99)), (3, .int x3), (4, .int x4), (7, .int z73.2.1), (8, .int z73.2.2.1)]) hx hb dX5_read_116 hl37 (by decide) rfl (fun ls38 hl38 => ?_)
                        clear hl37
                        refine lv_goto (tgt := 158) hx hb dX5_read_118 (by decide) ?_
                        refine lv_iinc (v := (z73.2.2.1 + (1 : Int32))) (lv' := [(8, .int (z73.2.2.1 + (1 : Int32))), (6, .int (2 : Int32)), (9, .int (x3 + ((2 : Int32) * z73.2.2.1))), (5, .ref (ad 10 99)), (0, .ref (ad 0 99)), (3, .int x3), (4, .int x4), (7, .int z73.2.1)]) hx hb dX5_read_158 hl38 (k := 7) rfl rfl (by decide) rfl (fun ls39 hl39 => ?_)
                        clear hl38
                        refine lv_goto (tgt := 73) hx hb dX5_read_161 (by decide) ?_
                        cases hm
                        exact ih73 ((2 : Int32), z73.2.1, (z73.2.2.1 + (1 : Int32)), z73.2.2.2) ρ73 hz73 hK73 _ _ hP32 hD32 hS32 _ (lv_sub hl39 [3, 4, 5, 6, 1, 7, 0] rfl)
                      · replace hm := tn hm c100
                        refine lv_aload hx hb dX5_read_103 (lv_at hl37 1 rfl) ?_
                        refine lv_iload hx hb dX5_read_105 (lv_at hl37 0 rfl) ?_
                        refine lv_iconst (v := (1 : Int32)) hx hb dX5_read_107 (by decide) ?_
                        refine lv_iadd hx hb dX5_read_108 ?_
                        obtain ⟨y109, hy109, hm⟩ := bn hm
                        refine cVRi (As := [.int ((x3 + ((2 : Int32) * z73.2.2.1)) + (1 : Int32))]) (rest := []) X hP32 hl37.1 (c_X2_hasCell l D q (ad 10) v10 ((x3 + ((2 : Int32) * z73.2.2.1)) + (1 : Int32)) y109 hy109) [32, 33] rfl 32 rfl rfl rfl k_832 mX2_hasCell ⟨rfl, rfl⟩ ⟨Nat.le_of_ble_eq_true rfl, Nat.le_of_ble_eq_true rfl⟩ rfl rfl (Nat.le_of_ble_eq_true rfl) dX5_read_109 ⟨Nat.zero_le _, Nat.zero_le _⟩ ?_
                        refine lv_if_ne (tgt := 121) hx hb dX5_read_112 (by decide) (fun c112 => ?_) (fun c112 => ?_)
                        · replace hm := tn hm c112
                          refine lv_aload_n hx hb dX5_read_121 rfl (lv_at hl37 2 rfl) ?_
                          refine va_get (D := D) (ci := 5) (v := .ref (ad 2 99)) (C := RX5) (T := TX5) (N := 11) hx hb hW iX5 hown hK hP32 0 rfl rfl 2 (by decide) (hW _ k_310) (fun _ h => h) rfl dX5_read_122 ?_
                          refine lv_aload hx hb dX5_read_125 (lv_at hl37 1 rfl) ?_
                          refine va_get (D := D) (ci := 2) (v := .ref (ad 10 2)) (C := RX2) (T := TX2) (N := 3) hx hb hW iX2 hown hK hP32 32 rfl rfl 2 (by decide) (hW _ k_300) (fun _ h => h) rfl dX5_read_127 ?_
                          refine lv_iload hx hb dX5_read_130 (lv_at hl37 0 rfl) ?_
                          obtain ⟨h42, hm⟩ := ckd hm
                          refine va_iald (f := (v10 2)) hx hb hK hP32 33 0 rfl rfl (inB_vp h42) dX5_read_132 ?_
                          refine lv_aload hx hb dX5_read_133 (lv_at hl37 1 rfl) ?_
                          refine va_get (D := D) (ci := 2) (v := .ref (ad 10 2)) (C := RX2) (T := TX2) (N := 3) hx hb hW iX2 hown hK hP32 32 rfl rfl 2 (by decide) (hW _ k_300) (fun _ h => h) rfl dX5_read_135 ?_
                          refine lv_iload hx hb dX5_read_138 (lv_at hl37 0 rfl) ?_
                          refine lv_iconst (v := (1 : Int32)) hx hb dX5_read_140 (by decide) ?_
                          refine lv_iadd hx hb dX5_read_141 ?_
                          obtain ⟨h43, hm⟩ := ckd hm
                          refine va_iald (f := (v10 2)) hx hb hK hP32 33 0 rfl rfl (inB_vp h43) dX5_read_142 ?_
                          obtain ⟨y143, hy143, hm⟩ := bn hm
                          refine cVWi (As := [.int (v10 2 (((x3 + ((2 : Int32) * z73.2.2.1))).toNatClampNeg)), .int (v10 2 ((((x3 + ((2 : Int32) * z73.2.2.1)) + (1 : Int32))).toNatClampNeg))]) (rest := []) (Wn := fun (uu : SV) => wX5 q ad v0 ++ (wX3 q (ad 1) v1 ++ (wX3 q (ad 2) uu ++ (wX2 q (ad 9) v9 ++ (wX2 q (ad 10) v10 ++ (wX2 q (ad 11) v11 ++ wX2 q (ad 12) v12)))))) X hP32 hD32 hS32 (fun _ h => Or.inr h) hl37.1 (c_X3_sit l D q H32.size (ad 2) z73.2.2.2 (v10 2 (((x3 + ((2 : Int32) * z73.2.2.1))).toNatClampNeg)) (v10 2 ((((x3 + ((2 : Int32) * z73.2.2.1)) + (1 : Int32))).toNatClampNeg)) y143 hy143) [18, 19, 20, 21, 22, 23, 24, 25, 26, 27, 28, 29] [0, 1, 2, 3, 4, 5, 6, 7, 8, 9, 10, 11, 12, 13, 14, 15, 16, 17, 30, 31, 32, 33, 34, 35, 36, 37] [0, 1, 2, 3, 4, 5, 6, 7, 8, 9, 10, 11, 12, 13, 14, 15, 16, 17, 26, 27, 28, 29, 30, 31, 32, 33, 34, 35, 36, 37, 18, 19, 20, 21, 22, 23, 24, 25] rfl (Wr := wX5 q ad v0 ++ (wX3 q (ad 1) v1 ++ (wX2 q (ad 9) v9 ++ (wX2 q (ad 10) v10 ++ (wX2 q (ad 11) v11 ++ wX2 q (ad 12) v12))))) rfl (by decide) (by decide) (by decide) (by decide) (fun _ => rfl) 18 rfl rfl rfl k_579 mX3_sit ⟨rfl, rfl⟩ ⟨Nat.le_of_ble_eq_true rfl, Nat.le_of_ble_eq_true rfl⟩ rfl rfl (Nat.le_of_ble_eq_true rfl) dX5_read_143 ⟨Nat.zero_le _, Nat.zero_le _⟩ (fun H44 locs44 hP hD hS44 => ?_)
                          have hP44 : va_P D cls (wX5 q ad v0 ++ (wX3 q (ad 1) v1 ++ (wX3 q (ad 2) y143.2 ++ (wX2 q (ad 9) v9 ++ (wX2 q (ad 10) v10 ++ (wX2 q (ad 11) v11 ++ wX2 q (ad 12) v12)))))) H44 := hP
                          have hD44 : va_D (va_A (wX5 q ad v0 ++ (wX3 q (ad 1) v1 ++ (wX3 q (ad 2) v2 ++ (wX2 q (ad 9) v9 ++ (wX2 q (ad 10) v10 ++ (wX2 q (ad 11) v11 ++ wX2 q (ad 12) v12)))))) s.heap.size) (wX5 q ad v0 ++ (wX3 q (ad 1) v1 ++ (wX3 q (ad 2) y143.2 ++ (wX2 q (ad 9) v9 ++ (wX2 q (ad 10) v10 ++ (wX2 q (ad 11) v11 ++ wX2 q (ad 12) v12)))))) := hD
                          clear hP hD hP32 hD32 hS32
                          refine lv_if_ge (tgt := 155) hx hb dX5_read_146 (by decide) (fun c146 => ?_) (fun c146 => ?_)
                          · replace hm := tp hm c146
                            refine lv_iinc (v := (z73.2.1 + (1 : Int32))) (lv' := [(7, .int (z73.2.1 + (1 : Int32))), (9, .int (x3 + ((2 : Int32) * z73.2.2.1))), (5, .ref (ad 10 99)), (0, .ref (ad 0 99)), (3, .int x3), (4, .int x4), (6, .int z73.1), (8, .int z73.2.2.1)]) hx hb dX5_read_155 hl37 (k := 6) rfl rfl (by decide) rfl (fun ls45 hl45 => ?_)
                            clear hl37
                            refine lv_iinc (v := (z73.2.2.1 + (1 : Int32))) (lv' := [(8, .int (z73.2.2.1 + (1 : Int32))), (7, .int (z73.2.1 + (1 : Int32))), (9, .int (x3 + ((2 : Int32) * z73.2.2.1))), (5, .ref (ad 10 99)), (0, .ref (ad 0 99)), (3, .int x3), (4, .int x4), (6, .int z73.1)]) hx hb dX5_read_158 hl45 (k := 7) rfl rfl (by decide) rfl (fun ls46 hl46 => ?_)
                            clear hl45
                            refine lv_goto (tgt := 73) hx hb dX5_read_161 (by decide) ?_
                            cases hm
                            exact ih73 (z73.1, (z73.2.1 + (1 : Int32)), (z73.2.2.1 + (1 : Int32)), y143.2) ρ73 hz73 hK73 _ _ hP44 hD44 hS44 _ (lv_sub hl46 [3, 4, 5, 6, 7, 1, 0] rfl)
                          · replace hm := tn hm c146
                            refine lv_bipush (v := (-20 : Int32)) hx hb dX5_read_149 (by decide) ?_
                            refine lv_iload hx hb dX5_read_151 (lv_at hl37 7 rfl) ?_
                            refine lv_isub hx hb dX5_read_153 ?_
                            cases hm
                            cases hz73
                            have hm : (some (((-20 : Int32) - z73.2.2.1), v0, v1, y143.2) : Option (Int32 × SV × SV × SV)) = some res := hK73
                            exact eWi (Wf := fun (uu : SV × SV × SV) => wX5 q ad uu.1 ++ (wX3 q (ad 1) uu.2.1 ++ (wX3 q (ad 2) uu.2.2 ++ (wX2 q (ad 9) v9 ++ (wX2 q (ad 10) v10 ++ (wX2 q (ad 11) v11 ++ wX2 q (ad 12) v12)))))) (u := (v0, v1, y143.2)) X hr hlocks hP44 hD44 hS44 hm dX5_read_154
                        · replace hm := tp hm c112
                          refine lv_iconst (v := (2 : Int32)) hx hb dX5_read_115 (by decide) ?_
                          refine lv_istore (lv' := [(6, .int (2 : Int32)), (9, .int (x3 + ((2 : Int32) * z73.2.2.1))), (5, .ref (ad 10 99)), (0, .ref (ad 0 99)), (3, .int x3), (4, .int x4), (7, .int z73.2.1), (8, .int z73.2.2.1)]) hx hb dX5_read_116 hl37 (by decide) rfl (fun ls40 hl40 => ?_)
                          clear hl37
                          refine lv_goto (tgt := 158) hx hb dX5_read_118 (by decide) ?_
                          refine lv_iinc (v := (z73.2.2.1 + (1 : Int32))) (lv' := [(8, .int (z73.2.2.1 + (1 : Int32))), (6, .int (2 : Int32)), (9, .int (x3 + ((2 : Int32) * z73.2.2.1))), (5, .ref (ad 10 99)), (0, .ref (ad 0 99)), (3, .int x3), (4, .int x4), (7, .int z73.2.1)]) hx hb dX5_read_158 hl40 (k := 7) rfl rfl (by decide) rfl (fun ls41 hl41 => ?_)
                          clear hl40
                          refine lv_goto (tgt := 73) hx hb dX5_read_161 (by decide) ?_
                          cases hm
                          exact ih73 ((2 : Int32), z73.2.1, (z73.2.2.1 + (1 : Int32)), z73.2.2.2) ρ73 hz73 hK73 _ _ hP32 hD32 hS32 _ (lv_sub hl41 [3, 4, 5, 6, 1, 7, 0] rfl)
              exact hL73 n73 (z54, (0 : Int32), (0 : Int32), y67) r73 hn73 hm _ _ hP29 hD29 hS29 _ (lv_sub hl30 [3, 4, 5, 6, 2, 1, 0] rfl)
            refine lv_if_ne (tgt := 48) hx hb dX5_read_41 (by decide) (fun c41 => ?_) (fun c41 => ?_)
            · replace hm := tn hm c41
              refine lv_aload hx hb dX5_read_48 (lv_at hl24 0 rfl) ?_
              refine lv_iload_n hx hb dX5_read_50 rfl (lv_at hl24 3 rfl) ?_
              obtain ⟨y51, hy51, hm⟩ := bn hm
              refine cVRi (As := [.int x2]) (rest := []) X hP0 hl24.1 (c_X2_faultAs l D q (ad 10) v10 x2 y51 hy51) [32, 33] rfl 32 rfl rfl rfl k_844 mX2_faultAs ⟨rfl, rfl⟩ ⟨Nat.le_of_ble_eq_true rfl, Nat.le_of_ble_eq_true rfl⟩ rfl rfl (Nat.le_of_ble_eq_true rfl) dX5_read_51 ⟨Nat.zero_le _, Nat.zero_le _⟩ ?_
              exact hJ54 y51 hm _ _ hP0 hD0 hS0 _ (lv_sub hl24 [0, 1, 4, 5] rfl)
            · replace hm := tp hm c41
              refine lv_iconst (v := (0 : Int32)) hx hb dX5_read_44 (by decide) ?_
              refine lv_goto (tgt := 54) hx hb dX5_read_45 (by decide) ?_
              exact hJ54 (0 : Int32) hm _ _ hP0 hD0 hS0 _ (lv_sub hl24 [0, 1, 4, 5] rfl)
          · replace hm := tn hm c36_1
            by_cases c36_2 : x1 = (2 : Int32)
            · replace hm := tp hm c36_2
              refine r_aald (bb := (ad 11 99)) hx hb hK hP0 3 4 rfl rfl (inB_vp (by rw [c36_2]; decide)) (by rw [c36_2]; rfl) dX5_read_36 ?_
              refine lv_astore (lv' := [(5, .ref (ad 11 99)), (0, .ref (ad 0 99)), (1, .int x1), (2, .int x2), (3, .int x3), (4, .int x4)]) hx hb dX5_read_37 hl0 (by decide) rfl (fun ls47 hl47 => ?_)
              clear hl0
              refine lv_iload hx hb dX5_read_39 (lv_at hl47 5 rfl) ?_
              have hJ54 : ∀ z54 : Int32, m_X5_read_J54_3 v0 v1 v2 v11 x3 x4 z54 = some res → ∀ (H : Heap) (locs : List Loc), va_P D cls (wX5 q ad v0 ++ (wX3 q (ad 1) v1 ++ (wX3 q (ad 2) v2 ++ (wX2 q (ad 9) v9 ++ (wX2 q (ad 10) v10 ++ (wX2 q (ad 11) v11 ++ wX2 q (ad 12) v12)))))) H → va_D (va_A (wX5 q ad v0 ++ (wX3 q (ad 1) v1 ++ (wX3 q (ad 2) v2 ++ (wX2 q (ad 9) v9 ++ (wX2 q (ad 10) v10 ++ (wX2 q (ad 11) v11 ++ wX2 q (ad 12) v12)))))) s.heap.size) (wX5 q ad v0 ++ (wX3 q (ad 1) v1 ++ (wX3 q (ad 2) v2 ++ (wX2 q (ad 9) v9 ++ (wX2 q (ad 10) v10 ++ (wX2 q (ad 11) v11 ++ wX2 q (ad 12) v12)))))) → va_S (va_A (wX5 q ad v0 ++ (wX3 q (ad 1) v1 ++ (wX3 q (ad 2) v2 ++ (wX2 q (ad 9) v9 ++ (wX2 q (ad 10) v10 ++ (wX2 q (ad 11) v11 ++ wX2 q (ad 12) v12)))))) s.heap.size) s.heap H locs → ∀ ls : Array Slot, lv_has ls 10 [(5, .ref (ad 11 99)), (0, .ref (ad 0 99)), (3, .int x3), (4, .int x4)] → W p l e ((headSpec (mw yX5_read cX5_read 10 (some .int)) ({ frames := 3, cells := 0, slots := 0, locals := 105 } : Room)).room) s m [.ref (ad 0 99), .int x1, .int x2, .int x3, .int x4].toArray below meth c H locs 0 0 (MQ below (va_Qi (fun r w => r = res.1 ∧ w = res.2) (bW D q (wX5 q ad v0 ++ (wX3 q (ad 1) v1 ++ (wX3 q (ad 2) v2 ++ (wX2 q (ad 9) v9 ++ (wX2 q (ad 10) v10 ++ (wX2 q (ad 11) v11 ++ wX2 q (ad 12) v12)))))) s.heap.size (fun (uu : SV × SV × SV) => wX5 q ad uu.1 ++ (wX3 q (ad 1) uu.2.1 ++ (wX3 q (ad 2) uu.2.2 ++ (wX2 q (ad 9) v9 ++ (wX2 q (ad 10) v10 ++ (wX2 q (ad 11) v11 ++ wX2 q (ad 12) v12))))))) (va_A (wX5 q ad v0 ++ (wX3 q (ad 1) v1 ++ (wX3 q (ad 2) v2 ++ (wX2 q (ad 9) v9 ++ (wX2 q (ad 10) v10 ++ (wX2 q (ad 11) v11 ++ wX2 q (ad 12) v12)))))) s.heap.size)) [.ref (ad 0 99), .int x1, .int x2, .int x3, .int x4].toArray s 0 0 (va_A (wX5 q ad v0 ++ (wX3 q (ad 1) v1 ++ (wX3 q (ad 2) v2 ++ (wX2 q (ad 9) v9 ++ (wX2 q (ad 10) v10 ++ (wX2 q (ad 11) v11 ++ wX2 q (ad 12) v12)))))) s.heap.size)) (F0 m 54 ls [.int z54]) := by
                intro z54 hm H49 locs49 hP49 hD49 hS49 ls48 hl48
                unfold m_X5_read_J54_3 at hm
                refine lv_istore (lv' := [(6, .int z54), (5, .ref (ad 11 99)), (0, .ref (ad 0 99)), (3, .int x3), (4, .int x4)]) hx hb dX5_read_54 hl48 (by decide) rfl (fun ls50 hl50 => ?_)
                clear hl48
                refine lv_iconst (v := (0 : Int32)) hx hb dX5_read_56 (by decide) ?_
                refine lv_istore (lv' := [(7, .int (0 : Int32)), (6, .int z54), (5, .ref (ad 11 99)), (0, .ref (ad 0 99)), (3, .int x3), (4, .int x4)]) hx hb dX5_read_57 hl50 (by decide) rfl (fun ls51 hl51 => ?_)
                clear hl50
                refine lv_aload_n hx hb dX5_read_59 rfl (lv_at hl51 3 rfl) ?_
                refine va_get (D := D) (ci := 5) (v := .ref (ad 2 99)) (C := RX5) (T := TX5) (N := 11) hx hb hW iX5 hown hK hP49 0 rfl rfl 2 (by decide) (hW _ k_310) (fun _ h => h) rfl dX5_read_60 ?_
                refine lv_aload_n hx hb dX5_read_63 rfl (lv_at hl51 3 rfl) ?_
                refine va_get (D := D) (ci := 5) (v := .ref (ad 1 99)) (C := RX5) (T := TX5) (N := 11) hx hb hW iX5 hown hK hP49 0 rfl rfl 1 (by decide) (hW _ k_309) (fun _ h => h) rfl dX5_read_64 ?_
                obtain ⟨y67, hy67, hm⟩ := bn hm
                refine cVWv (As := [.ref (ad 1 99)]) (rest := []) (Wn := fun (uu : SV) => wX5 q ad v0 ++ (wX3 q (ad 1) v1 ++ (wX3 q (ad 2) uu ++ (wX2 q (ad 9) v9 ++ (wX2 q (ad 10) v10 ++ (wX2 q (ad 11) v11 ++ wX2 q (ad 12) v12)))))) X hP49 hD49 hS49 (fun _ h => Or.inr h) hl51.1 (c_X3_becomes l D q H49.size (ad 2) v2 (ad 1) v1 y67 hy67) [18, 19, 20, 21, 22, 23, 24, 25, 26, 27, 28, 29, 6, 7, 8, 9, 10, 11, 12, 13, 14, 15, 16, 17] [0, 1, 2, 3, 4, 5, 30, 31, 32, 33, 34, 35, 36, 37] [0, 1, 2, 3, 4, 5, 26, 27, 28, 29, 30, 31, 32, 33, 34, 35, 36, 37, 14, 15, 16, 17, 18, 19, 20, 21, 22, 23, 24, 25, 6, 7, 8, 9, 10, 11, 12, 13] rfl (Wr := wX5 q ad v0 ++ (wX2 q (ad 9) v9 ++ (wX2 q (ad 10) v10 ++ (wX2 q (ad 11) v11 ++ wX2 q (ad 12) v12)))) rfl (by decide) (by decide) (by decide) (by decide) (fun _ => rfl) 18 rfl rfl rfl k_504 mX3_becomes ⟨rfl, rfl⟩ ⟨Nat.le_of_ble_eq_true rfl, Nat.le_of_ble_eq_true rfl⟩ rfl rfl (Nat.le_of_ble_eq_true rfl) dX5_read_67 ⟨Nat.zero_le _, Nat.zero_le _⟩ (fun H52 locs52 hP hD hS52 => ?_)
                have hP52 : va_P D cls (wX5 q ad v0 ++ (wX3 q (ad 1) v1 ++ (wX3 q (ad 2) y67 ++ (wX2 q (ad 9) v9 ++ (wX2 q (ad 10) v10 ++ (wX2 q (ad 11) v11 ++ wX2 q (ad 12) v12)))))) H52 := hP
                have hD52 : va_D (va_A (wX5 q ad v0 ++ (wX3 q (ad 1) v1 ++ (wX3 q (ad 2) v2 ++ (wX2 q (ad 9) v9 ++ (wX2 q (ad 10) v10 ++ (wX2 q (ad 11) v11 ++ wX2 q (ad 12) v12)))))) s.heap.size) (wX5 q ad v0 ++ (wX3 q (ad 1) v1 ++ (wX3 q (ad 2) y67 ++ (wX2 q (ad 9) v9 ++ (wX2 q (ad 10) v10 ++ (wX2 q (ad 11) v11 ++ wX2 q (ad 12) v12)))))) := hD
                clear hP hD hP49 hD49 hS49
                refine lv_iconst (v := (0 : Int32)) hx hb dX5_read_70 (by decide) ?_
                refine lv_istore (lv' := [(8, .int (0 : Int32)), (7, .int (0 : Int32)), (6, .int z54), (5, .ref (ad 11 99)), (0, .ref (ad 0 99)), (3, .int x3), (4, .int x4)]) hx hb dX5_read_71 hl51 (by decide) rfl (fun ls53 hl53 => ?_)
                clear hl51
                obtain ⟨r73, hr73, hm⟩ := bn hm
                obtain ⟨n73, hn73⟩ := lpC_ex hr73
                have hE73 : ∀ z73 : Int32 × Int32 × Int32 × SV, m_X5_read_K73_3 v0 v1 z73 = some res → ∀ (H : Heap) (locs : List Loc), va_P D cls (wX5 q ad v0 ++ (wX3 q (ad 1) v1 ++ (wX3 q (ad 2) z73.2.2.2 ++ (wX2 q (ad 9) v9 ++ (wX2 q (ad 10) v10 ++ (wX2 q (ad 11) v11 ++ wX2 q (ad 12) v12)))))) H → va_D (va_A (wX5 q ad v0 ++ (wX3 q (ad 1) v1 ++ (wX3 q (ad 2) v2 ++ (wX2 q (ad 9) v9 ++ (wX2 q (ad 10) v10 ++ (wX2 q (ad 11) v11 ++ wX2 q (ad 12) v12)))))) s.heap.size) (wX5 q ad v0 ++ (wX3 q (ad 1) v1 ++ (wX3 q (ad 2) z73.2.2.2 ++ (wX2 q (ad 9) v9 ++ (wX2 q (ad 10) v10 ++ (wX2 q (ad 11) v11 ++ wX2 q (ad 12) v12)))))) → va_S (va_A (wX5 q ad v0 ++ (wX3 q (ad 1) v1 ++ (wX3 q (ad 2) v2 ++ (wX2 q (ad 9) v9 ++ (wX2 q (ad 10) v10 ++ (wX2 q (ad 11) v11 ++ wX2 q (ad 12) v12)))))) s.heap.size) s.heap H locs → ∀ ls : Array Slot, lv_has ls 10 [(0, .ref (ad 0 99)), (6, .int z73.1), (7, .int z73.2.1)] → W p l e ((headSpec (mw yX5_read cX5_read 10 (some .int)) ({ frames := 3, cells := 0, slots := 0, locals := 105 } : Room)).room) s m [.ref (ad 0 99), .int x1, .int x2, .int x3, .int x4].toArray below meth c H locs 0 0 (MQ below (va_Qi (fun r w => r = res.1 ∧ w = res.2) (bW D q (wX5 q ad v0 ++ (wX3 q (ad 1) v1 ++ (wX3 q (ad 2) v2 ++ (wX2 q (ad 9) v9 ++ (wX2 q (ad 10) v10 ++ (wX2 q (ad 11) v11 ++ wX2 q (ad 12) v12)))))) s.heap.size (fun (uu : SV × SV × SV) => wX5 q ad uu.1 ++ (wX3 q (ad 1) uu.2.1 ++ (wX3 q (ad 2) uu.2.2 ++ (wX2 q (ad 9) v9 ++ (wX2 q (ad 10) v10 ++ (wX2 q (ad 11) v11 ++ wX2 q (ad 12) v12))))))) (va_A (wX5 q ad v0 ++ (wX3 q (ad 1) v1 ++ (wX3 q (ad 2) v2 ++ (wX2 q (ad 9) v9 ++ (wX2 q (ad 10) v10 ++ (wX2 q (ad 11) v11 ++ wX2 q (ad 12) v12)))))) s.heap.size)) [.ref (ad 0 99), .int x1, .int x2, .int x3, .int x4].toArray s 0 0 (va_A (wX5 q ad v0 ++ (wX3 q (ad 1) v1 ++ (wX3 q (ad 2) v2 ++ (wX2 q (ad 9) v9 ++ (wX2 q (ad 10) v10 ++ (wX2 q (ad 11) v11 ++ wX2 q (ad 12) v12)))))) s.heap.size)) (F0 m 164 ls []) := by
                  intro z73 hm H57 locs57 hP57 hD57 hS57 ls56 hl56
                  unfold m_X5_read_K73_3 at hm
                  refine lv_aload_n hx hb dX5_read_164 rfl (lv_at hl56 0 rfl) ?_
                  refine va_get (D := D) (ci := 5) (v := .ref (ad 1 99)) (C := RX5) (T := TX5) (N := 11) hx hb hW iX5 hown hK hP57 0 rfl rfl 1 (by decide) (hW _ k_309) (fun _ h => h) rfl dX5_read_165 ?_
                  refine lv_aload_n hx hb dX5_read_168 rfl (lv_at hl56 0 rfl) ?_
                  refine va_get (D := D) (ci := 5) (v := .ref (ad 2 99)) (C := RX5) (T := TX5) (N := 11) hx hb hW iX5 hown hK hP57 0 rfl rfl 2 (by decide) (hW _ k_310) (fun _ h => h) rfl dX5_read_169 ?_
                  obtain ⟨y172, hy172, hm⟩ := bn hm
                  refine cVWv (As := [.ref (ad 2 99)]) (rest := []) (Wn := fun (uu : SV) => wX5 q ad v0 ++ (wX3 q (ad 1) uu ++ (wX3 q (ad 2) z73.2.2.2 ++ (wX2 q (ad 9) v9 ++ (wX2 q (ad 10) v10 ++ (wX2 q (ad 11) v11 ++ wX2 q (ad 12) v12)))))) X hP57 hD57 hS57 (fun _ h => Or.inr h) hl56.1 (c_X3_becomes l D q H57.size (ad 1) v1 (ad 2) z73.2.2.2 y172 hy172) [6, 7, 8, 9, 10, 11, 12, 13, 14, 15, 16, 17, 18, 19, 20, 21, 22, 23, 24, 25, 26, 27, 28, 29] [0, 1, 2, 3, 4, 5, 30, 31, 32, 33, 34, 35, 36, 37] [0, 1, 2, 3, 4, 5, 14, 15, 16, 17, 18, 19, 20, 21, 22, 23, 24, 25, 26, 27, 28, 29, 30, 31, 32, 33, 34, 35, 36, 37, 6, 7, 8, 9, 10, 11, 12, 13] rfl (Wr := wX5 q ad v0 ++ (wX2 q (ad 9) v9 ++ (wX2 q (ad 10) v10 ++ (wX2 q (ad 11) v11 ++ wX2 q (ad 12) v12)))) rfl (by decide) (by decide) (by decide) (by decide) (fun _ => rfl) 6 rfl rfl rfl k_504 mX3_becomes ⟨rfl, rfl⟩ ⟨Nat.le_of_ble_eq_true rfl, Nat.le_of_ble_eq_true rfl⟩ rfl rfl (Nat.le_of_ble_eq_true rfl) dX5_read_172 ⟨Nat.zero_le _, Nat.zero_le _⟩ (fun H58 locs58 hP hD hS58 => ?_)
                  have hP58 : va_P D cls (wX5 q ad v0 ++ (wX3 q (ad 1) y172 ++ (wX3 q (ad 2) z73.2.2.2 ++ (wX2 q (ad 9) v9 ++ (wX2 q (ad 10) v10 ++ (wX2 q (ad 11) v11 ++ wX2 q (ad 12) v12)))))) H58 := hP
                  have hD58 : va_D (va_A (wX5 q ad v0 ++ (wX3 q (ad 1) v1 ++ (wX3 q (ad 2) v2 ++ (wX2 q (ad 9) v9 ++ (wX2 q (ad 10) v10 ++ (wX2 q (ad 11) v11 ++ wX2 q (ad 12) v12)))))) s.heap.size) (wX5 q ad v0 ++ (wX3 q (ad 1) y172 ++ (wX3 q (ad 2) z73.2.2.2 ++ (wX2 q (ad 9) v9 ++ (wX2 q (ad 10) v10 ++ (wX2 q (ad 11) v11 ++ wX2 q (ad 12) v12)))))) := hD
                  clear hP hD hP57 hD57 hS57
                  refine lv_aload_n hx hb dX5_read_175 rfl (lv_at hl56 0 rfl) ?_
                  refine lv_iload hx hb dX5_read_176 (lv_at hl56 1 rfl) ?_
                  refine va_put (D := D) (ci := 5) (v := .int z73.1) (ty := .int) (C := RX5) (T := TX5) (N := 11) hx hb hW iX5 tyX5 tyX5_ok nmX5 hown hK hP58 hD58 hS58 0 rfl rfl 10 (by decide) (hW _ k_318) (fun _ h => h) rfl (by decide +kernel) rfl rfl (Nat.le_of_ble_eq_true rfl) dX5_read_178 (fun H59 locs59 hP hD hS59 => ?_)
                  obtain ⟨v59_, e59, hm⟩ := ltd hm
                  have hP59 : va_P D cls (wX5 q ad v59_ ++ (wX3 q (ad 1) y172 ++ (wX3 q (ad 2) z73.2.2.2 ++ (wX2 q (ad 9) v9 ++ (wX2 q (ad 10) v10 ++ (wX2 q (ad 11) v11 ++ wX2 q (ad 12) v12)))))) H59 := by rw [e59]; exact hP
                  have hD59 : va_D (va_A (wX5 q ad v0 ++ (wX3 q (ad 1) v1 ++ (wX3 q (ad 2) v2 ++ (wX2 q (ad 9) v9 ++ (wX2 q (ad 10) v10 ++ (wX2 q (ad 11) v11 ++ wX2 q (ad 12) v12)))))) s.heap.size) (wX5 q ad v59_ ++ (wX3 q (ad 1) y172 ++ (wX3 q (ad 2) z73.2.2.2 ++ (wX2 q (ad 9) v9 ++ (wX2 q (ad 10) v10 ++ (wX2 q (ad 11) v11 ++ wX2 q (ad 12) v12)))))) := by rw [e59]; exact hD
                  clear hP hD hP58 hD58 hS58
                  refine lv_iload hx hb dX5_read_181 (lv_at hl56 2 rfl) ?_
                  exact eWi (Wf := fun (uu : SV × SV × SV) => wX5 q ad uu.1 ++ (wX3 q (ad 1) uu.2.1 ++ (wX3 q (ad 2) uu.2.2 ++ (wX2 q (ad 9) v9 ++ (wX2 q (ad 10) v10 ++ (wX2 q (ad 11) v11 ++ wX2 q (ad 12) v12)))))) (u := (v59_, y172, z73.2.2.2)) X hr hlocks hP59 hD59 hS59 hm dX5_read_183
                have hL73 : ∀ (n : Nat) (z73 : Int32 × Int32 × Int32 × SV) (ρ73 : (Int32 × Int32 × Int32 × SV) ⊕ (Int32 × SV × SV × SV)), lpO (m_X5_read_L73_3 v0 v1 v11 x3 x4) n z73 = some ρ73 → (Sum.elim (m_X5_read_K73_3 v0 v1) (fun y => some y)) ρ73 = some res → ∀ (H : Heap) (locs : List Loc), va_P D cls (wX5 q ad v0 ++ (wX3 q (ad 1) v1 ++ (wX3 q (ad 2) z73.2.2.2 ++ (wX2 q (ad 9) v9 ++ (wX2 q (ad 10) v10 ++ (wX2 q (ad 11) v11 ++ wX2 q (ad 12) v12)))))) H → va_D (va_A (wX5 q ad v0 ++ (wX3 q (ad 1) v1 ++ (wX3 q (ad 2) v2 ++ (wX2 q (ad 9) v9 ++ (wX2 q (ad 10) v10 ++ (wX2 q (ad 11) v11 ++ wX2 q (ad 12) v12)))))) s.heap.size) (wX5 q ad v0 ++ (wX3 q (ad 1) v1 ++ (wX3 q (ad 2) z73.2.2.2 ++ (wX2 q (ad 9) v9 ++ (wX2 q (ad 10) v10 ++ (wX2 q (ad 11) v11 ++ wX2 q (ad 12) v12)))))) → va_S (va_A (wX5 q ad v0 ++ (wX3 q (ad 1) v1 ++ (wX3 q (ad 2) v2 ++ (wX2 q (ad 9) v9 ++ (wX2 q (ad 10) v10 ++ (wX2 q (ad 11) v11 ++ wX2 q (ad 12) v12)))))) s.heap.size) s.heap H locs → ∀ ls : Array Slot, lv_has ls 10 [(5, .ref (ad 11 99)), (0, .ref (ad 0 99)), (3, .int x3), (4, .int x4), (6, .int z73.1), (7, .int z73.2.1), (8, .int z73.2.2.1)] → W p l e ((headSpec (mw yX5_read cX5_read 10 (some .int)) ({ frames := 3, cells := 0, slots := 0, locals := 105 } : Room)).room) s m [.ref (ad 0 99), .int x1, .int x2, .int x3, .int x4].toArray below meth c H locs 0 0 (MQ below (va_Qi (fun r w => r = res.1 ∧ w = res.2) (bW D q (wX5 q ad v0 ++ (wX3 q (ad 1) v1 ++ (wX3 q (ad 2) v2 ++ (wX2 q (ad 9) v9 ++ (wX2 q (ad 10) v10 ++ (wX2 q (ad 11) v11 ++ wX2 q (ad 12) v12)))))) s.heap.size (fun (uu : SV × SV × SV) => wX5 q ad uu.1 ++ (wX3 q (ad 1) uu.2.1 ++ (wX3 q (ad 2) uu.2.2 ++ (wX2 q (ad 9) v9 ++ (wX2 q (ad 10) v10 ++ (wX2 q (ad 11) v11 ++ wX2 q (ad 12) v12))))))) (va_A (wX5 q ad v0 ++ (wX3 q (ad 1) v1 ++ (wX3 q (ad 2) v2 ++ (wX2 q (ad 9) v9 ++ (wX2 q (ad 10) v10 ++ (wX2 q (ad 11) v11 ++ wX2 q (ad 12) v12)))))) s.heap.size)) [.ref (ad 0 99), .int x1, .int x2, .int x3, .int x4].toArray s 0 0 (va_A (wX5 q ad v0 ++ (wX3 q (ad 1) v1 ++ (wX3 q (ad 2) v2 ++ (wX2 q (ad 9) v9 ++ (wX2 q (ad 10) v10 ++ (wX2 q (ad 11) v11 ++ wX2 q (ad 12) v12)))))) s.heap.size)) (F0 m 73 ls []) := by
                  intro n
                  induction n with
                  | zero => intro _ _ h; cases h
                  | succ n ih73 =>
                    intro z73 ρ73 hz73 hK73 H55 locs55 hP55 hD55 hS55 ls54 hl54
                    obtain ⟨t73, hm, hz73⟩ := bn hz73
                    unfold m_X5_read_L73_3 at hm
                    refine lv_iload hx hb dX5_read_73 (lv_at hl54 6 rfl) ?_
                    refine lv_iload hx hb dX5_read_75 (lv_at hl54 3 rfl) ?_
                    refine lv_icmp_ge (tgt := 164) hx hb dX5_read_77 (by decide) (fun c77 => ?_) (fun c77 => ?_)
                    · replace hm := tp hm c77
                      cases hm
                      cases hz73
                      exact hE73 (z73.1, z73.2.1, z73.2.2.1, z73.2.2.2) hK73 _ _ hP55 hD55 hS55 _ (lv_sub hl54 [1, 4, 5] rfl)
                    · replace hm := tn hm c77
                      refine lv_iload hx hb dX5_read_80 (lv_at hl54 4 rfl) ?_
                      refine lv_if_ne (tgt := 164) hx hb dX5_read_82 (by decide) (fun c82 => ?_) (fun c82 => ?_)
                      · replace hm := tn hm c82
                        cases hm
                        cases hz73
                        exact hE73 (z73.1, z73.2.1, z73.2.2.1, z73.2.2.2) hK73 _ _ hP55 hD55 hS55 _ (lv_sub hl54 [1, 4, 5] rfl)
                      · replace hm := tp hm c82
                        refine lv_iload_n hx hb dX5_read_85 rfl (lv_at hl54 2 rfl) ?_
                        refine lv_iconst (v := (2 : Int32)) hx hb dX5_read_86 (by decide) ?_
                        refine lv_iload hx hb dX5_read_87 (lv_at hl54 6 rfl) ?_
                        refine lv_imul hx hb dX5_read_89 ?_
                        refine lv_iadd hx hb dX5_read_90 ?_
                        refine lv_istore (lv' := [(9, .int (x3 + ((2 : Int32) * z73.2.2.1))), (5, .ref (ad 11 99)), (0, .ref (ad 0 99)), (3, .int x3), (4, .int x4), (6, .int z73.1), (7, .int z73.2.1), (8, .int z73.2.2.1)]) hx hb dX5_read_91 hl54 (by decide) rfl (fun ls60 hl60 => ?_)
                        clear hl54
                        refine lv_aload hx hb dX5_read_93 (lv_at hl60 1 rfl) ?_
                        refine lv_iload hx hb dX5_read_95 (lv_at hl60 0 rfl) ?_
                        obtain ⟨y97, hy97, hm⟩ := bn hm
                        refine cVRi (As := [.int (x3 + ((2 : Int32) * z73.2.2.1))]) (rest := []) X hP55 hl60.1 (c_X2_hasCell l D q (ad 11) v11 (x3 + ((2 : Int32) * z73.2.2.1)) y97 hy97) [34, 35] rfl 34 rfl rfl rfl k_832 mX2_hasCell ⟨rfl, rfl⟩ ⟨Nat.le_of_ble_eq_true rfl, Nat.le_of_ble_eq_true rfl⟩ rfl rfl (Nat.le_of_ble_eq_true rfl) dX5_read_97 ⟨Nat.zero_le _, Nat.zero_le _⟩ ?_
                        refine lv_if_eq (tgt := 115) hx hb dX5_read_100 (by decide) (fun c100 => ?_) (fun c100 => ?_)
                        · replace hm := tp hm c100
                          refine lv_iconst (v := (2 : Int32)) hx hb dX5_read_115 (by decide) ?_
                          refine lv_istore (lv' := [(6, .int (2 : Int32)), (9, .int (x3 + ((2 : Int32) * z73.2.2.1))), (5, .ref (ad 11 99)), (0, .ref (ad 0 99)), (3, .int x3), (4, .int x4), (7, .int z73.2.1), (8, .int z73.2.2.1)]) hx hb dX5_read_116 hl60 (by decide) rfl (fun ls61 hl61 => ?_)
                          clear hl60
                          refine lv_goto (tgt := 158) hx hb dX5_read_118 (by decide) ?_
                          refine lv_iinc (v := (z73.2.2.1 + (1 : Int32))) (lv' := [(8, .int (z73.2.2.1 + (1 : Int32))), (6, .int (2 : Int32)), (9, .int (x3 + ((2 : Int32) * z73.2.2.1))), (5, .ref (ad 11 99)), (0, .ref (ad 0 99)), (3, .int x3), (4, .int x4), (7, .int z73.2.1)]) hx hb dX5_read_158 hl61 (k := 7) rfl rfl (by decide) rfl (fun ls62 hl62 => ?_)
                          clear hl61
                          refine lv_goto (tgt := 73) hx hb dX5_read_161 (by decide) ?_
                          cases hm
                          exact ih73 ((2 : Int32), z73.2.1, (z73.2.2.1 + (1 : Int32)), z73.2.2.2) ρ73 hz73 hK73 _ _ hP55 hD55 hS55 _ (lv_sub hl62 [3, 4, 5, 6, 1, 7, 0] rfl)
                        · replace hm := tn hm c100
                          refine lv_aload hx hb dX5_read_103 (lv_at hl60 1 rfl) ?_
                          refine lv_iload hx hb dX5_read_105 (lv_at hl60 0 rfl) ?_
                          refine lv_iconst (v := (1 : Int32)) hx hb dX5_read_107 (by decide) ?_
                          refine lv_iadd hx hb dX5_read_108 ?_
                          obtain ⟨y109, hy109, hm⟩ := bn hm
                          refine cVRi (As := [.int ((x3 + ((2 : Int32) * z73.2.2.1)) + (1 : Int32))]) (rest := []) X hP55 hl60.1 (c_X2_hasCell l D q (ad 11) v11 ((x3 + ((2 : Int32) * z73.2.2.1)) + (1 : Int32)) y109 hy109) [34, 35] rfl 34 rfl rfl rfl k_832 mX2_hasCell ⟨rfl, rfl⟩ ⟨Nat.le_of_ble_eq_true rfl, Nat.le_of_ble_eq_true rfl⟩ rfl rfl (Nat.le_of_ble_eq_true rfl) dX5_read_109 ⟨Nat.zero_le _, Nat.zero_le _⟩ ?_
                          refine lv_if_ne (tgt := 121) hx hb dX5_read_112 (by decide) (fun c112 => ?_) (fun c112 => ?_)
                          · replace hm := tn hm c112
                            refine lv_aload_n hx hb dX5_read_121 rfl (lv_at hl60 2 rfl) ?_
                            refine va_get (D := D) (ci := 5) (v := .ref (ad 2 99)) (C := RX5) (T := TX5) (N := 11) hx hb hW iX5 hown hK hP55 0 rfl rfl 2 (by decide) (hW _ k_310) (fun _ h => h) rfl dX5_read_122 ?_
                            refine lv_aload hx hb dX5_read_125 (lv_at hl60 1 rfl) ?_
                            refine va_get (D := D) (ci := 2) (v := .ref (ad 11 2)) (C := RX2) (T := TX2) (N := 3) hx hb hW iX2 hown hK hP55 34 rfl rfl 2 (by decide) (hW _ k_300) (fun _ h => h) rfl dX5_read_127 ?_
                            refine lv_iload hx hb dX5_read_130 (lv_at hl60 0 rfl) ?_
                            obtain ⟨h65, hm⟩ := ckd hm
                            refine va_iald (f := (v11 2)) hx hb hK hP55 35 0 rfl rfl (inB_vp h65) dX5_read_132 ?_
                            refine lv_aload hx hb dX5_read_133 (lv_at hl60 1 rfl) ?_
                            refine va_get (D := D) (ci := 2) (v := .ref (ad 11 2)) (C := RX2) (T := TX2) (N := 3) hx hb hW iX2 hown hK hP55 34 rfl rfl 2 (by decide) (hW _ k_300) (fun _ h => h) rfl dX5_read_135 ?_
                            refine lv_iload hx hb dX5_read_138 (lv_at hl60 0 rfl) ?_
                            refine lv_iconst (v := (1 : Int32)) hx hb dX5_read_140 (by decide) ?_
                            refine lv_iadd hx hb dX5_read_141 ?_
                            obtain ⟨h66, hm⟩ := ckd hm
                            refine va_iald (f := (v11 2)) hx hb hK hP55 35 0 rfl rfl (inB_vp h66) dX5_read_142 ?_
                            obtain ⟨y143, hy143, hm⟩ := bn hm
                            refine cVWi (As := [.int (v11 2 (((x3 + ((2 : Int32) * z73.2.2.1))).toNatClampNeg)), .int (v11 2 ((((x3 + ((2 : Int32) * z73.2.2.1)) + (1 : Int32))).toNatClampNeg))]) (rest := []) (Wn := fun (uu : SV) => wX5 q ad v0 ++ (wX3 q (ad 1) v1 ++ (wX3 q (ad 2) uu ++ (wX2 q (ad 9) v9 ++ (wX2 q (ad 10) v10 ++ (wX2 q (ad 11) v11 ++ wX2 q (ad 12) v12)))))) X hP55 hD55 hS55 (fun _ h => Or.inr h) hl60.1 (c_X3_sit l D q H55.size (ad 2) z73.2.2.2 (v11 2 (((x3 + ((2 : Int32) * z73.2.2.1))).toNatClampNeg)) (v11 2 ((((x3 + ((2 : Int32) * z73.2.2.1)) + (1 : Int32))).toNatClampNeg)) y143 hy143) [18, 19, 20, 21, 22, 23, 24, 25, 26, 27, 28, 29] [0, 1, 2, 3, 4, 5, 6, 7, 8, 9, 10, 11, 12, 13, 14, 15, 16, 17, 30, 31, 32, 33, 34, 35, 36, 37] [0, 1, 2, 3, 4, 5, 6, 7, 8, 9, 10, 11, 12, 13, 14, 15, 16, 17, 26, 27, 28, 29, 30, 31, 32, 33, 34, 35, 36, 37, 18, 19, 20, 21, 22, 23, 24, 25] rfl (Wr := wX5 q ad v0 ++ (wX3 q (ad 1) v1 ++ (wX2 q (ad 9) v9 ++ (wX2 q (ad 10) v10 ++ (wX2 q (ad 11) v11 ++ wX2 q (ad 12) v12))))) rfl (by decide) (by decide) (by decide) (by decide) (fun _ => rfl) 18 rfl rfl rfl k_579 mX3_sit ⟨rfl, rfl⟩ ⟨Nat.le_of_ble_eq_true rfl, Nat.le_of_ble_eq_true rfl⟩ rfl rfl (Nat.le_of_ble_eq_true rfl) dX5_read_143 ⟨Nat.zero_le _, Nat.zero_le _⟩ (fun H67 locs67 hP hD hS67 => ?_)
                            have hP67 : va_P D cls (wX5 q ad v0 ++ (wX3 q (ad 1) v1 ++ (wX3 q (ad 2) y143.2 ++ (wX2 q (ad 9) v9 ++ (wX2 q (ad 10) v10 ++ (wX2 q (ad 11) v11 ++ wX2 q (ad 12) v12)))))) H67 := hP
                            have hD67 : va_D (va_A (wX5 q ad v0 ++ (wX3 q (ad 1) v1 ++ (wX3 q (ad 2) v2 ++ (wX2 q (ad 9) v9 ++ (wX2 q (ad 10) v10 ++ (wX2 q (ad 11) v11 ++ wX2 q (ad 12) v12)))))) s.heap.size) (wX5 q ad v0 ++ (wX3 q (ad 1) v1 ++ (wX3 q (ad 2) y143.2 ++ (wX2 q (ad 9) v9 ++ (wX2 q (ad 10) v10 ++ (wX2 q (ad 11) v11 ++ wX2 q (ad 12) v12)))))) := hD
                            clear hP hD hP55 hD55 hS55
                            refine lv_if_ge (tgt := 155) hx hb dX5_read_146 (by decide) (fun c146 => ?_) (fun c146 => ?_)
                            · replace hm := tp hm c146
                              refine lv_iinc (v := (z73.2.1 + (1 : Int32))) (lv' := [(7, .int (z73.2.1 + (1 : Int32))), (9, .int (x3 + ((2 : Int32) * z73.2.2.1))), (5, .ref (ad 11 99)), (0, .ref (ad 0 99)), (3, .int x3), (4, .int x4), (6, .int z73.1), (8, .int z73.2.2.1)]) hx hb dX5_read_155 hl60 (k := 6) rfl rfl (by decide) rfl (fun ls68 hl68 => ?_)
                              clear hl60
                              refine lv_iinc (v := (z73.2.2.1 + (1 : Int32))) (lv' := [(8, .int (z73.2.2.1 + (1 : Int32))), (7, .int (z73.2.1 + (1 : Int32))), (9, .int (x3 + ((2 : Int32) * z73.2.2.1))), (5, .ref (ad 11 99)), (0, .ref (ad 0 99)), (3, .int x3), (4, .int x4), (6, .int z73.1)]) hx hb dX5_read_158 hl68 (k := 7) rfl rfl (by decide) rfl (fun ls69 hl69 => ?_)
                              clear hl68
                              refine lv_goto (tgt := 73) hx hb dX5_read_161 (by decide) ?_
                              cases hm
                              exact ih73 (z73.1, (z73.2.1 + (1 : Int32)), (z73.2.2.1 + (1 : Int32)), y143.2) ρ73 hz73 hK73 _ _ hP67 hD67 hS67 _ (lv_sub hl69 [3, 4, 5, 6, 7, 1, 0] rfl)
                            · replace hm := tn hm c146
                              refine lv_bipush (v := (-20 : Int32)) hx hb dX5_read_149 (by decide) ?_
                              refine lv_iload hx hb dX5_read_151 (lv_at hl60 7 rfl) ?_
                              refine lv_isub hx hb dX5_read_153 ?_
                              cases hm
                              cases hz73
                              have hm : (some (((-20 : Int32) - z73.2.2.1), v0, v1, y143.2) : Option (Int32 × SV × SV × SV)) = some res := hK73
                              exact eWi (Wf := fun (uu : SV × SV × SV) => wX5 q ad uu.1 ++ (wX3 q (ad 1) uu.2.1 ++ (wX3 q (ad 2) uu.2.2 ++ (wX2 q (ad 9) v9 ++ (wX2 q (ad 10) v10 ++ (wX2 q (ad 11) v11 ++ wX2 q (ad 12) v12)))))) (u := (v0, v1, y143.2)) X hr hlocks hP67 hD67 hS67 hm dX5_read_154
                          · replace hm := tp hm c112
                            refine lv_iconst (v := (2 : Int32)) hx hb dX5_read_115 (by decide) ?_
                            refine lv_istore (lv' := [(6, .int (2 : Int32)), (9, .int (x3 + ((2 : Int32) * z73.2.2.1))), (5, .ref (ad 11 99)), (0, .ref (ad 0 99)), (3, .int x3), (4, .int x4), (7, .int z73.2.1), (8, .int z73.2.2.1)]) hx hb dX5_read_116 hl60 (by decide) rfl (fun ls63 hl63 => ?_)
                            clear hl60
                            refine lv_goto (tgt := 158) hx hb dX5_read_118 (by decide) ?_
                            refine lv_iinc (v := (z73.2.2.1 + (1 : Int32))) (lv' := [(8, .int (z73.2.2.1 + (1 : Int32))), (6, .int (2 : Int32)), (9, .int (x3 + ((2 : Int32) * z73.2.2.1))), (5, .ref (ad 11 99)), (0, .ref (ad 0 99)), (3, .int x3), (4, .int x4), (7, .int z73.2.1)]) hx hb dX5_read_158 hl63 (k := 7) rfl rfl (by decide) rfl (fun ls64 hl64 => ?_)
                            clear hl63
                            refine lv_goto (tgt := 73) hx hb dX5_read_161 (by decide) ?_
                            cases hm
                            exact ih73 ((2 : Int32), z73.2.1, (z73.2.2.1 + (1 : Int32)), z73.2.2.2) ρ73 hz73 hK73 _ _ hP55 hD55 hS55 _ (lv_sub hl64 [3, 4, 5, 6, 1, 7, 0] rfl)
                exact hL73 n73 (z54, (0 : Int32), (0 : Int32), y67) r73 hn73 hm _ _ hP52 hD52 hS52 _ (lv_sub hl53 [3, 4, 5, 6, 2, 1, 0] rfl)
              refine lv_if_ne (tgt := 48) hx hb dX5_read_41 (by decide) (fun c41 => ?_) (fun c41 => ?_)
              · replace hm := tn hm c41
                refine lv_aload hx hb dX5_read_48 (lv_at hl47 0 rfl) ?_
                refine lv_iload_n hx hb dX5_read_50 rfl (lv_at hl47 3 rfl) ?_
                obtain ⟨y51, hy51, hm⟩ := bn hm
                refine cVRi (As := [.int x2]) (rest := []) X hP0 hl47.1 (c_X2_faultAs l D q (ad 11) v11 x2 y51 hy51) [34, 35] rfl 34 rfl rfl rfl k_844 mX2_faultAs ⟨rfl, rfl⟩ ⟨Nat.le_of_ble_eq_true rfl, Nat.le_of_ble_eq_true rfl⟩ rfl rfl (Nat.le_of_ble_eq_true rfl) dX5_read_51 ⟨Nat.zero_le _, Nat.zero_le _⟩ ?_
                exact hJ54 y51 hm _ _ hP0 hD0 hS0 _ (lv_sub hl47 [0, 1, 4, 5] rfl)
              · replace hm := tp hm c41
                refine lv_iconst (v := (0 : Int32)) hx hb dX5_read_44 (by decide) ?_
                refine lv_goto (tgt := 54) hx hb dX5_read_45 (by decide) ?_
                exact hJ54 (0 : Int32) hm _ _ hP0 hD0 hS0 _ (lv_sub hl47 [0, 1, 4, 5] rfl)
            · replace hm := tn hm c36_2
              by_cases c36_3 : x1 = (3 : Int32)
              · replace hm := tp hm c36_3
                refine r_aald (bb := (ad 12 99)) hx hb hK hP0 3 4 rfl rfl (inB_vp (by rw [c36_3]; decide)) (by rw [c36_3]; rfl) dX5_read_36 ?_
                refine lv_astore (lv' := [(5, .ref (ad 12 99)), (0, .ref (ad 0 99)), (1, .int x1), (2, .int x2), (3, .int x3), (4, .int x4)]) hx hb dX5_read_37 hl0 (by decide) rfl (fun ls70 hl70 => ?_)
                clear hl0
                refine lv_iload hx hb dX5_read_39 (lv_at hl70 5 rfl) ?_
                have hJ54 : ∀ z54 : Int32, m_X5_read_J54_4 v0 v1 v2 v12 x3 x4 z54 = some res → ∀ (H : Heap) (locs : List Loc), va_P D cls (wX5 q ad v0 ++ (wX3 q (ad 1) v1 ++ (wX3 q (ad 2) v2 ++ (wX2 q (ad 9) v9 ++ (wX2 q (ad 10) v10 ++ (wX2 q (ad 11) v11 ++ wX2 q (ad 12) v12)))))) H → va_D (va_A (wX5 q ad v0 ++ (wX3 q (ad 1) v1 ++ (wX3 q (ad 2) v2 ++ (wX2 q (ad 9) v9 ++ (wX2 q (ad 10) v10 ++ (wX2 q (ad 11) v11 ++ wX2 q (ad 12) v12)))))) s.heap.size) (wX5 q ad v0 ++ (wX3 q (ad 1) v1 ++ (wX3 q (ad 2) v2 ++ (wX2 q (ad 9) v9 ++ (wX2 q (ad 10) v10 ++ (wX2 q (ad 11) v11 ++ wX2 q (ad 12) v12)))))) → va_S (va_A (wX5 q ad v0 ++ (wX3 q (ad 1) v1 ++ (wX3 q (ad 2) v2 ++ (wX2 q (ad 9) v9 ++ (wX2 q (ad 10) v10 ++ (wX2 q (ad 11) v11 ++ wX2 q (ad 12) v12)))))) s.heap.size) s.heap H locs → ∀ ls : Array Slot, lv_has ls 10 [(5, .ref (ad 12 99)), (0, .ref (ad 0 99)), (3, .int x3), (4, .int x4)] → W p l e ((headSpec (mw yX5_read cX5_read 10 (some .int)) ({ frames := 3, cells := 0, slots := 0, locals := 105 } : Room)).room) s m [.ref (ad 0 99), .int x1, .int x2, .int x3, .int x4].toArray below meth c H locs 0 0 (MQ below (va_Qi (fun r w => r = res.1 ∧ w = res.2) (bW D q (wX5 q ad v0 ++ (wX3 q (ad 1) v1 ++ (wX3 q (ad 2) v2 ++ (wX2 q (ad 9) v9 ++ (wX2 q (ad 10) v10 ++ (wX2 q (ad 11) v11 ++ wX2 q (ad 12) v12)))))) s.heap.size (fun (uu : SV × SV × SV) => wX5 q ad uu.1 ++ (wX3 q (ad 1) uu.2.1 ++ (wX3 q (ad 2) uu.2.2 ++ (wX2 q (ad 9) v9 ++ (wX2 q (ad 10) v10 ++ (wX2 q (ad 11) v11 ++ wX2 q (ad 12) v12))))))) (va_A (wX5 q ad v0 ++ (wX3 q (ad 1) v1 ++ (wX3 q (ad 2) v2 ++ (wX2 q (ad 9) v9 ++ (wX2 q (ad 10) v10 ++ (wX2 q (ad 11) v11 ++ wX2 q (ad 12) v12)))))) s.heap.size)) [.ref (ad 0 99), .int x1, .int x2, .int x3, .int x4].toArray s 0 0 (va_A (wX5 q ad v0 ++ (wX3 q (ad 1) v1 ++ (wX3 q (ad 2) v2 ++ (wX2 q (ad 9) v9 ++ (wX2 q (ad 10) v10 ++ (wX2 q (ad 11) v11 ++ wX2 q (ad 12) v12)))))) s.heap.size)) (F0 m 54 ls [.int z54]) := by
                  intro z54 hm H72 locs72 hP72 hD72 hS72 ls71 hl71
                  unfold m_X5_read_J54_4 at hm
                  refine lv_istore (lv' := [(6, .int z54), (5, .ref (ad 12 99)), (0, .ref (ad 0 99)), (3, .int x3), (4, .int x4)]) hx hb dX5_read_54 hl71 (by decide) rfl (fun ls73 hl73 => ?_)
                  clear hl71
                  refine lv_iconst (v := (0 : Int32)) hx hb dX5_read_56 (by decide) ?_
                  refine lv_istore (lv' := [(7, .int (0 : Int32)), (6, .int z54), (5, .ref (ad 12 99)), (0, .ref (ad 0 99)), (3, .int x3), (4, .int x4)]) hx hb dX5_read_57 hl73 (by decide) rfl (fun ls74 hl74 => ?_)
                  clear hl73
                  refine lv_aload_n hx hb dX5_read_59 rfl (lv_at hl74 3 rfl) ?_
                  refine va_get (D := D) (ci := 5) (v := .ref (ad 2 99)) (C := RX5) (T := TX5) (N := 11) hx hb hW iX5 hown hK hP72 0 rfl rfl 2 (by decide) (hW _ k_310) (fun _ h => h) rfl dX5_read_60 ?_
                  refine lv_aload_n hx hb dX5_read_63 rfl (lv_at hl74 3 rfl) ?_
                  refine va_get (D := D) (ci := 5) (v := .ref (ad 1 99)) (C := RX5) (T := TX5) (N := 11) hx hb hW iX5 hown hK hP72 0 rfl rfl 1 (by decide) (hW _ k_309) (fun _ h => h) rfl dX5_read_64 ?_
                  obtain ⟨y67, hy67, hm⟩ := bn hm
                  refine cVWv (As := [.ref (ad 1 99)]) (rest := []) (Wn := fun (uu : SV) => wX5 q ad v0 ++ (wX3 q (ad 1) v1 ++ (wX3 q (ad 2) uu ++ (wX2 q (ad 9) v9 ++ (wX2 q (ad 10) v10 ++ (wX2 q (ad 11) v11 ++ wX2 q (ad 12) v12)))))) X hP72 hD72 hS72 (fun _ h => Or.inr h) hl74.1 (c_X3_becomes l D q H72.size (ad 2) v2 (ad 1) v1 y67 hy67) [18, 19, 20, 21, 22, 23, 24, 25, 26, 27, 28, 29, 6, 7, 8, 9, 10, 11, 12, 13, 14, 15, 16, 17] [0, 1, 2, 3, 4, 5, 30, 31, 32, 33, 34, 35, 36, 37] [0, 1, 2, 3, 4, 5, 26, 27, 28, 29, 30, 31, 32, 33, 34, 35, 36, 37, 14, 15, 16, 17, 18, 19, 20, 21, 22, 23, 24, 25, 6, 7, 8, 9, 10, 11, 12, 13] rfl (Wr := wX5 q ad v0 ++ (wX2 q (ad 9) v9 ++ (wX2 q (ad 10) v10 ++ (wX2 q (ad 11) v11 ++ wX2 q (ad 12) v12)))) rfl (by decide) (by decide) (by decide) (by decide) (fun _ => rfl) 18 rfl rfl rfl k_504 mX3_becomes ⟨rfl, rfl⟩ ⟨Nat.le_of_ble_eq_true rfl, Nat.le_of_ble_eq_true rfl⟩ rfl rfl (Nat.le_of_ble_eq_true rfl) dX5_read_67 ⟨Nat.zero_le _, Nat.zero_le _⟩ (fun H75 locs75 hP hD hS75 => ?_)
                  have hP75 : va_P D cls (wX5 q ad v0 ++ (wX3 q (ad 1) v1 ++ (wX3 q (ad 2) y67 ++ (wX2 q (ad 9) v9 ++ (wX2 q (ad 10) v10 ++ (wX2 q (ad 11) v11 ++ wX2 q (ad 12) v12)))))) H75 := hP
                  have hD75 : va_D (va_A (wX5 q ad v0 ++ (wX3 q (ad 1) v1 ++ (wX3 q (ad 2) v2 ++ (wX2 q (ad 9) v9 ++ (wX2 q (ad 10) v10 ++ (wX2 q (ad 11) v11 ++ wX2 q (ad 12) v12)))))) s.heap.size) (wX5 q ad v0 ++ (wX3 q (ad 1) v1 ++ (wX3 q (ad 2) y67 ++ (wX2 q (ad 9) v9 ++ (wX2 q (ad 10) v10 ++ (wX2 q (ad 11) v11 ++ wX2 q (ad 12) v12)))))) := hD
                  clear hP hD hP72 hD72 hS72
                  refine lv_iconst (v := (0 : Int32)) hx hb dX5_read_70 (by decide) ?_
                  refine lv_istore (lv' := [(8, .int (0 : Int32)), (7, .int (0 : Int32)), (6, .int z54), (5, .ref (ad 12 99)), (0, .ref (ad 0 99)), (3, .int x3), (4, .int x4)]) hx hb dX5_read_71 hl74 (by decide) rfl (fun ls76 hl76 => ?_)
                  clear hl74
                  obtain ⟨r73, hr73, hm⟩ := bn hm
                  obtain ⟨n73, hn73⟩ := lpC_ex hr73
                  have hE73 : ∀ z73 : Int32 × Int32 × Int32 × SV, m_X5_read_K73_4 v0 v1 z73 = some res → ∀ (H : Heap) (locs : List Loc), va_P D cls (wX5 q ad v0 ++ (wX3 q (ad 1) v1 ++ (wX3 q (ad 2) z73.2.2.2 ++ (wX2 q (ad 9) v9 ++ (wX2 q (ad 10) v10 ++ (wX2 q (ad 11) v11 ++ wX2 q (ad 12) v12)))))) H → va_D (va_A (wX5 q ad v0 ++ (wX3 q (ad 1) v1 ++ (wX3 q (ad 2) v2 ++ (wX2 q (ad 9) v9 ++ (wX2 q (ad 10) v10 ++ (wX2 q (ad 11) v11 ++ wX2 q (ad 12) v12)))))) s.heap.size) (wX5 q ad v0 ++ (wX3 q (ad 1) v1 ++ (wX3 q (ad 2) z73.2.2.2 ++ (wX2 q (ad 9) v9 ++ (wX2 q (ad 10) v10 ++ (wX2 q (ad 11) v11 ++ wX2 q (ad 12) v12)))))) → va_S (va_A (wX5 q ad v0 ++ (wX3 q (ad 1) v1 ++ (wX3 q (ad 2) v2 ++ (wX2 q (ad 9) v9 ++ (wX2 q (ad 10) v10 ++ (wX2 q (ad 11) v11 ++ wX2 q (ad 12) v12)))))) s.heap.size) s.heap H locs → ∀ ls : Array Slot, lv_has ls 10 [(0, .ref (ad 0 99)), (6, .int z73.1), (7, .int z73.2.1)] → W p l e ((headSpec (mw yX5_read cX5_read 10 (some .int)) ({ frames := 3, cells := 0, slots := 0, locals := 105 } : Room)).room) s m [.ref (ad 0 99), .int x1, .int x2, .int x3, .int x4].toArray below meth c H locs 0 0 (MQ below (va_Qi (fun r w => r = res.1 ∧ w = res.2) (bW D q (wX5 q ad v0 ++ (wX3 q (ad 1) v1 ++ (wX3 q (ad 2) v2 ++ (wX2 q (ad 9) v9 ++ (wX2 q (ad 10) v10 ++ (wX2 q (ad 11) v11 ++ wX2 q (ad 12) v12)))))) s.heap.size (fun (uu : SV × SV × SV) => wX5 q ad uu.1 ++ (wX3 q (ad 1) uu.2.1 ++ (wX3 q (ad 2) uu.2.2 ++ (wX2 q (ad 9) v9 ++ (wX2 q (ad 10) v10 ++ (wX2 q (ad 11) v11 ++ wX2 q (ad 12) v12))))))) (va_A (wX5 q ad v0 ++ (wX3 q (ad 1) v1 ++ (wX3 q (ad 2) v2 ++ (wX2 q (ad 9) v9 ++ (wX2 q (ad 10) v10 ++ (wX2 q (ad 11) v11 ++ wX2 q (ad 12) v12)))))) s.heap.size)) [.ref (ad 0 99), .int x1, .int x2, .int x3, .int x4].toArray s 0 0 (va_A (wX5 q ad v0 ++ (wX3 q (ad 1) v1 ++ (wX3 q (ad 2) v2 ++ (wX2 q (ad 9) v9 ++ (wX2 q (ad 10) v10 ++ (wX2 q (ad 11) v11 ++ wX2 q (ad 12) v12)))))) s.heap.size)) (F0 m 164 ls []) := by
                    intro z73 hm H80 locs80 hP80 hD80 hS80 ls79 hl79
                    unfold m_X5_read_K73_4 at hm
                    refine lv_aload_n hx hb dX5_read_164 rfl (lv_at hl79 0 rfl) ?_
                    refine va_get (D := D) (ci := 5) (v := .ref (ad 1 99)) (C := RX5) (T := TX5) (N := 11) hx hb hW iX5 hown hK hP80 0 rfl rfl 1 (by decide) (hW _ k_309) (fun _ h => h) rfl dX5_read_165 ?_
                    refine lv_aload_n hx hb dX5_read_168 rfl (lv_at hl79 0 rfl) ?_
                    refine va_get (D := D) (ci := 5) (v := .ref (ad 2 99)) (C := RX5) (T := TX5) (N := 11) hx hb hW iX5 hown hK hP80 0 rfl rfl 2 (by decide) (hW _ k_310) (fun _ h => h) rfl dX5_read_169 ?_
                    obtain ⟨y172, hy172, hm⟩ := bn hm
                    refine cVWv (As := [.ref (ad 2 99)]) (rest := []) (Wn := fun (uu : SV) => wX5 q ad v0 ++ (wX3 q (ad 1) uu ++ (wX3 q (ad 2) z73.2.2.2 ++ (wX2 q (ad 9) v9 ++ (wX2 q (ad 10) v10 ++ (wX2 q (ad 11) v11 ++ wX2 q (ad 12) v12)))))) X hP80 hD80 hS80 (fun _ h => Or.inr h) hl79.1 (c_X3_becomes l D q H80.size (ad 1) v1 (ad 2) z73.2.2.2 y172 hy172) [6, 7, 8, 9, 10, 11, 12, 13, 14, 15, 16, 17, 18, 19, 20, 21, 22, 23, 24, 25, 26, 27, 28, 29] [0, 1, 2, 3, 4, 5, 30, 31, 32, 33, 34, 35, 36, 37] [0, 1, 2, 3, 4, 5, 14, 15, 16, 17, 18, 19, 20, 21, 22, 23, 24, 25, 26, 27, 28, 29, 30, 31, 32, 33, 34, 35, 36, 37, 6, 7, 8, 9, 10, 11, 12, 13] rfl (Wr := wX5 q ad v0 ++ (wX2 q (ad 9) v9 ++ (wX2 q (ad 10) v10 ++ (wX2 q (ad 11) v11 ++ wX2 q (ad 12) v12)))) rfl (by decide) (by decide) (by decide) (by decide) (fun _ => rfl) 6 rfl rfl rfl k_504 mX3_becomes ⟨rfl, rfl⟩ ⟨Nat.le_of_ble_eq_true rfl, Nat.le_of_ble_eq_true rfl⟩ rfl rfl (Nat.le_of_ble_eq_true rfl) dX5_read_172 ⟨Nat.zero_le _, Nat.zero_le _⟩ (fun H81 locs81 hP hD hS81 => ?_)
                    have hP81 : va_P D cls (wX5 q ad v0 ++ (wX3 q (ad 1) y172 ++ (wX3 q (ad 2) z73.2.2.2 ++ (wX2 q (ad 9) v9 ++ (wX2 q (ad 10) v10 ++ (wX2 q (ad 11) v11 ++ wX2 q (ad 12) v12)))))) H81 := hP
                    have hD81 : va_D (va_A (wX5 q ad v0 ++ (wX3 q (ad 1) v1 ++ (wX3 q (ad 2) v2 ++ (wX2 q (ad 9) v9 ++ (wX2 q (ad 10) v10 ++ (wX2 q (ad 11) v11 ++ wX2 q (ad 12) v12)))))) s.heap.size) (wX5 q ad v0 ++ (wX3 q (ad 1) y172 ++ (wX3 q (ad 2) z73.2.2.2 ++ (wX2 q (ad 9) v9 ++ (wX2 q (ad 10) v10 ++ (wX2 q (ad 11) v11 ++ wX2 q (ad 12) v12)))))) := hD
                    clear hP hD hP80 hD80 hS80
                    refine lv_aload_n hx hb dX5_read_175 rfl (lv_at hl79 0 rfl) ?_
                    refine lv_iload hx hb dX5_read_176 (lv_at hl79 1 rfl) ?_
                    refine va_put (D := D) (ci := 5) (v := .int z73.1) (ty := .int) (C := RX5) (T := TX5) (N := 11) hx hb hW iX5 tyX5 tyX5_ok nmX5 hown hK hP81 hD81 hS81 0 rfl rfl 10 (by decide) (hW _ k_318) (fun _ h => h) rfl (by decide +kernel) rfl rfl (Nat.le_of_ble_eq_true rfl) dX5_read_178 (fun H82 locs82 hP hD hS82 => ?_)
                    obtain ⟨v82_, e82, hm⟩ := ltd hm
                    have hP82 : va_P D cls (wX5 q ad v82_ ++ (wX3 q (ad 1) y172 ++ (wX3 q (ad 2) z73.2.2.2 ++ (wX2 q (ad 9) v9 ++ (wX2 q (ad 10) v10 ++ (wX2 q (ad 11) v11 ++ wX2 q (ad 12) v12)))))) H82 := by rw [e82]; exact hP
                    have hD82 : va_D (va_A (wX5 q ad v0 ++ (wX3 q (ad 1) v1 ++ (wX3 q (ad 2) v2 ++ (wX2 q (ad 9) v9 ++ (wX2 q (ad 10) v10 ++ (wX2 q (ad 11) v11 ++ wX2 q (ad 12) v12)))))) s.heap.size) (wX5 q ad v82_ ++ (wX3 q (ad 1) y172 ++ (wX3 q (ad 2) z73.2.2.2 ++ (wX2 q (ad 9) v9 ++ (wX2 q (ad 10) v10 ++ (wX2 q (ad 11) v11 ++ wX2 q (ad 12) v12)))))) := by rw [e82]; exact hD
                    clear hP hD hP81 hD81 hS81
                    refine lv_iload hx hb dX5_read_181 (lv_at hl79 2 rfl) ?_
                    exact eWi (Wf := fun (uu : SV × SV × SV) => wX5 q ad uu.1 ++ (wX3 q (ad 1) uu.2.1 ++ (wX3 q (ad 2) uu.2.2 ++ (wX2 q (ad 9) v9 ++ (wX2 q (ad 10) v10 ++ (wX2 q (ad 11) v11 ++ wX2 q (ad 12) v12)))))) (u := (v82_, y172, z73.2.2.2)) X hr hlocks hP82 hD82 hS82 hm dX5_read_183
                  have hL73 : ∀ (n : Nat) (z73 : Int32 × Int32 × Int32 × SV) (ρ73 : (Int32 × Int32 × Int32 × SV) ⊕ (Int32 × SV × SV × SV)), lpO (m_X5_read_L73_4 v0 v1 v12 x3 x4) n z73 = some ρ73 → (Sum.elim (m_X5_read_K73_4 v0 v1) (fun y => some y)) ρ73 = some res → ∀ (H : Heap) (locs : List Loc), va_P D cls (wX5 q ad v0 ++ (wX3 q (ad 1) v1 ++ (wX3 q (ad 2) z73.2.2.2 ++ (wX2 q (ad 9) v9 ++ (wX2 q (ad 10) v10 ++ (wX2 q (ad 11) v11 ++ wX2 q (ad 12) v12)))))) H → va_D (va_A (wX5 q ad v0 ++ (wX3 q (ad 1) v1 ++ (wX3 q (ad 2) v2 ++ (wX2 q (ad 9) v9 ++ (wX2 q (ad 10) v10 ++ (wX2 q (ad 11) v11 ++ wX2 q (ad 12) v12)))))) s.heap.size) (wX5 q ad v0 ++ (wX3 q (ad 1) v1 ++ (wX3 q (ad 2) z73.2.2.2 ++ (wX2 q (ad 9) v9 ++ (wX2 q (ad 10) v10 ++ (wX2 q (ad 11) v11 ++ wX2 q (ad 12) v12)))))) → va_S (va_A (wX5 q ad v0 ++ (wX3 q (ad 1) v1 ++ (wX3 q (ad 2) v2 ++ (wX2 q (ad 9) v9 ++ (wX2 q (ad 10) v10 ++ (wX2 q (ad 11) v11 ++ wX2 q (ad 12) v12)))))) s.heap.size) s.heap H locs → ∀ ls : Array Slot, lv_has ls 10 [(5, .ref (ad 12 99)), (0, .ref (ad 0 99)), (3, .int x3), (4, .int x4), (6, .int z73.1), (7, .int z73.2.1), (8, .int z73.2.2.1)] → W p l e ((headSpec (mw yX5_read cX5_read 10 (some .int)) ({ frames := 3, cells := 0, slots := 0, locals := 105 } : Room)).room) s m [.ref (ad 0 99), .int x1, .int x2, .int x3, .int x4].toArray below meth c H locs 0 0 (MQ below (va_Qi (fun r w => r = res.1 ∧ w = res.2) (bW D q (wX5 q ad v0 ++ (wX3 q (ad 1) v1 ++ (wX3 q (ad 2) v2 ++ (wX2 q (ad 9) v9 ++ (wX2 q (ad 10) v10 ++ (wX2 q (ad 11) v11 ++ wX2 q (ad 12) v12)))))) s.heap.size (fun (uu : SV × SV × SV) => wX5 q ad uu.1 ++ (wX3 q (ad 1) uu.2.1 ++ (wX3 q (ad 2) uu.2.2 ++ (wX2 q (ad 9) v9 ++ (wX2 q (ad 10) v10 ++ (wX2 q (ad 11) v11 ++ wX2 q (ad 12) v12))))))) (va_A (wX5 q ad v0 ++ (wX3 q (ad 1) v1 ++ (wX3 q (ad 2) v2 ++ (wX2 q (ad 9) v9 ++ (wX2 q (ad 10) v10 ++ (wX2 q (ad 11) v11 ++ wX2 q (ad 12) v12)))))) s.heap.size)) [.ref (ad 0 99), .int x1, .int x2, .int x3, .int x4].toArray s 0 0 (va_A (wX5 q ad v0 ++ (wX3 q (ad 1) v1 ++ (wX3 q (ad 2) v2 ++ (wX2 q (ad 9) v9 ++ (wX2 q (ad 10) v10 ++ (wX2 q (ad 11) v11 ++ wX2 q (ad 12) v12)))))) s.heap.size)) (F0 m 73 ls []) := by
                    intro n
                    induction n with
                    | zero => intro _ _ h; cases h
                    | succ n ih73 =>
                      intro z73 ρ73 hz73 hK73 H78 locs78 hP78 hD78 hS78 ls77 hl77
                      obtain ⟨t73, hm, hz73⟩ := bn hz73
                      unfold m_X5_read_L73_4 at hm
                      refine lv_iload hx hb dX5_read_73 (lv_at hl77 6 rfl) ?_
                      refine lv_iload hx hb dX5_read_75 (lv_at hl77 3 rfl) ?_
                      refine lv_icmp_ge (tgt := 164) hx hb dX5_read_77 (by decide) (fun c77 => ?_) (fun c77 => ?_)
                      · replace hm := tp hm c77
                        cases hm
                        cases hz73
                        exact hE73 (z73.1, z73.2.1, z73.2.2.1, z73.2.2.2) hK73 _ _ hP78 hD78 hS78 _ (lv_sub hl77 [1, 4, 5] rfl)
                      · replace hm := tn hm c77
                        refine lv_iload hx hb dX5_read_80 (lv_at hl77 4 rfl) ?_
                        refine lv_if_ne (tgt := 164) hx hb dX5_read_82 (by decide) (fun c82 => ?_) (fun c82 => ?_)
                        · replace hm := tn hm c82
                          cases hm
                          cases hz73
                          exact hE73 (z73.1, z73.2.1, z73.2.2.1, z73.2.2.2) hK73 _ _ hP78 hD78 hS78 _ (lv_sub hl77 [1, 4, 5] rfl)
                        · replace hm := tp hm c82
                          refine lv_iload_n hx hb dX5_read_85 rfl (lv_at hl77 2 rfl) ?_
                          refine lv_iconst (v := (2 : Int32)) hx hb dX5_read_86 (by decide) ?_
                          refine lv_iload hx hb dX5_read_87 (lv_at hl77 6 rfl) ?_
                          refine lv_imul hx hb dX5_read_89 ?_
                          refine lv_iadd hx hb dX5_read_90 ?_
                          refine lv_istore (lv' := [(9, .int (x3 + ((2 : Int32) * z73.2.2.1))), (5, .ref (ad 12 99)), (0, .ref (ad 0 99)), (3, .int x3), (4, .int x4), (6, .int z73.1), (7, .int z73.2.1), (8, .int z73.2.2.1)]) hx hb dX5_read_91 hl77 (by decide) rfl (fun ls83 hl83 => ?_)
                          clear hl77
                          refine lv_aload hx hb dX5_read_93 (lv_at hl83 1 rfl) ?_
                          refine lv_iload hx hb dX5_read_95 (lv_at hl83 0 rfl) ?_
                          obtain ⟨y97, hy97, hm⟩ := bn hm
                          refine cVRi (As := [.int (x3 + ((2 : Int32) * z73.2.2.1))]) (rest := []) X hP78 hl83.1 (c_X2_hasCell l D q (ad 12) v12 (x3 + ((2 : Int32) * z73.2.2.1)) y97 hy97) [36, 37] rfl 36 rfl rfl rfl k_832 mX2_hasCell ⟨rfl, rfl⟩ ⟨Nat.le_of_ble_eq_true rfl, Nat.le_of_ble_eq_true rfl⟩ rfl rfl (Nat.le_of_ble_eq_true rfl) dX5_read_97 ⟨Nat.zero_le _, Nat.zero_le _⟩ ?_
                          refine lv_if_eq (tgt := 115) hx hb dX5_read_100 (by decide) (fun c100 => ?_) (fun c100 => ?_)
                          · replace hm := tp hm c100
                            refine lv_iconst (v := (2 : Int32)) hx hb dX5_read_115 (by decide) ?_
                            refine lv_istore (lv' := [(6, .int (2 : Int32)), (9, .int (x3 + ((2 : Int32) * z73.2.2.1))), (5, .ref (ad 12 99)), (0, .ref (ad 0 99)), (3, .int x3), (4, .int x4), (7, .int z73.2.1), (8, .int z73.2.2.1)]) hx hb dX5_read_116 hl83 (by decide) rfl (fun ls84 hl84 => ?_)
                            clear hl83
                            refine lv_goto (tgt := 158) hx hb dX5_read_118 (by decide) ?_
                            refine lv_iinc (v := (z73.2.2.1 + (1 : Int32))) (lv' := [(8, .int (z73.2.2.1 + (1 : Int32))), (6, .int (2 : Int32)), (9, .int (x3 + ((2 : Int32) * z73.2.2.1))), (5, .ref (ad 12 99)), (0, .ref (ad 0 99)), (3, .int x3), (4, .int x4), (7, .int z73.2.1)]) hx hb dX5_read_158 hl84 (k := 7) rfl rfl (by decide) rfl (fun ls85 hl85 => ?_)
                            clear hl84
                            refine lv_goto (tgt := 73) hx hb dX5_read_161 (by decide) ?_
                            cases hm
                            exact ih73 ((2 : Int32), z73.2.1, (z73.2.2.1 + (1 : Int32)), z73.2.2.2) ρ73 hz73 hK73 _ _ hP78 hD78 hS78 _ (lv_sub hl85 [3, 4, 5, 6, 1, 7, 0] rfl)
                          · replace hm := tn hm c100
                            refine lv_aload hx hb dX5_read_103 (lv_at hl83 1 rfl) ?_
                            refine lv_iload hx hb dX5_read_105 (lv_at hl83 0 rfl) ?_
                            refine lv_iconst (v := (1 : Int32)) hx hb dX5_read_107 (by decide) ?_
                            refine lv_iadd hx hb dX5_read_108 ?_
                            obtain ⟨y109, hy109, hm⟩ := bn hm
                            refine cVRi (As := [.int ((x3 + ((2 : Int32) * z73.2.2.1)) + (1 : Int32))]) (rest := []) X hP78 hl83.1 (c_X2_hasCell l D q (ad 12) v12 ((x3 + ((2 : Int32) * z73.2.2.1)) + (1 : Int32)) y109 hy109) [36, 37] rfl 36 rfl rfl rfl k_832 mX2_hasCell ⟨rfl, rfl⟩ ⟨Nat.le_of_ble_eq_true rfl, Nat.le_of_ble_eq_true rfl⟩ rfl rfl (Nat.le_of_ble_eq_true rfl) dX5_read_109 ⟨Nat.zero_le _, Nat.zero_le _⟩ ?_
                            refine lv_if_ne (tgt := 121) hx hb dX5_read_112 (by decide) (fun c112 => ?_) (fun c112 => ?_)
                            · replace hm := tn hm c112
                              refine lv_aload_n hx hb dX5_read_121 rfl (lv_at hl83 2 rfl) ?_
                              refine va_get (D := D) (ci := 5) (v := .ref (ad 2 99)) (C := RX5) (T := TX5) (N := 11) hx hb hW iX5 hown hK hP78 0 rfl rfl 2 (by decide) (hW _ k_310) (fun _ h => h) rfl dX5_read_122 ?_
                              refine lv_aload hx hb dX5_read_125 (lv_at hl83 1 rfl) ?_
                              refine va_get (D := D) (ci := 2) (v := .ref (ad 12 2)) (C := RX2) (T := TX2) (N := 3) hx hb hW iX2 hown hK hP78 36 rfl rfl 2 (by decide) (hW _ k_300) (fun _ h => h) rfl dX5_read_127 ?_
                              refine lv_iload hx hb dX5_read_130 (lv_at hl83 0 rfl) ?_
                              obtain ⟨h88, hm⟩ := ckd hm
                              refine va_iald (f := (v12 2)) hx hb hK hP78 37 0 rfl rfl (inB_vp h88) dX5_read_132 ?_
                              refine lv_aload hx hb dX5_read_133 (lv_at hl83 1 rfl) ?_
                              refine va_get (D := D) (ci := 2) (v := .ref (ad 12 2)) (C := RX2) (T := TX2) (N := 3) hx hb hW iX2 hown hK hP78 36 rfl rfl 2 (by decide) (hW _ k_300) (fun _ h => h) rfl dX5_read_135 ?_
                              refine lv_iload hx hb dX5_read_138 (lv_at hl83 0 rfl) ?_
                              refine lv_iconst (v := (1 : Int32)) hx hb dX5_read_140 (by decide) ?_
                              refine lv_iadd hx hb dX5_read_141 ?_
                              obtain ⟨h89, hm⟩ := ckd hm
                              refine va_iald (f := (v12 2)) hx hb hK hP78 37 0 rfl rfl (inB_vp h89) dX5_read_142 ?_
                              obtain ⟨y143, hy143, hm⟩ := bn hm
                              refine cVWi (As := [.int (v12 2 (((x3 + ((2 : Int32) * z73.2.2.1))).toNatClampNeg)), .int (v12 2 ((((x3 + ((2 : Int32) * z73.2.2.1)) + (1 : Int32))).toNatClampNeg))]) (rest := []) (Wn := fun (uu : SV) => wX5 q ad v0 ++ (wX3 q (ad 1) v1 ++ (wX3 q (ad 2) uu ++ (wX2 q (ad 9) v9 ++ (wX2 q (ad 10) v10 ++ (wX2 q (ad 11) v11 ++ wX2 q (ad 12) v12)))))) X hP78 hD78 hS78 (fun _ h => Or.inr h) hl83.1 (c_X3_sit l D q H78.size (ad 2) z73.2.2.2 (v12 2 (((x3 + ((2 : Int32) * z73.2.2.1))).toNatClampNeg)) (v12 2 ((((x3 + ((2 : Int32) * z73.2.2.1)) + (1 : Int32))).toNatClampNeg)) y143 hy143) [18, 19, 20, 21, 22, 23, 24, 25, 26, 27, 28, 29] [0, 1, 2, 3, 4, 5, 6, 7, 8, 9, 10, 11, 12, 13, 14, 15, 16, 17, 30, 31, 32, 33, 34, 35, 36, 37] [0, 1, 2, 3, 4, 5, 6, 7, 8, 9, 10, 11, 12, 13, 14, 15, 16, 17, 26, 27, 28, 29, 30, 31, 32, 33, 34, 35, 36, 37, 18, 19, 20, 21, 22, 23, 24, 25] rfl (Wr := wX5 q ad v0 ++ (wX3 q (ad 1) v1 ++ (wX2 q (ad 9) v9 ++ (wX2 q (ad 10) v10 ++ (wX2 q (ad 11) v11 ++ wX2 q (ad 12) v12))))) rfl (by decide) (by decide) (by decide) (by decide) (fun _ => rfl) 18 rfl rfl rfl k_579 mX3_sit ⟨rfl, rfl⟩ ⟨Nat.le_of_ble_eq_true rfl, Nat.le_of_ble_eq_true rfl⟩ rfl rfl (Nat.le_of_ble_eq_true rfl) dX5_read_143 ⟨Nat.zero_le _, Nat.zero_le _⟩ (fun H90 locs90 hP hD hS90 => ?_)
                              have hP90 : va_P D cls (wX5 q ad v0 ++ (wX3 q (ad 1) v1 ++ (wX3 q (ad 2) y143.2 ++ (wX2 q (ad 9) v9 ++ (wX2 q (ad 10) v10 ++ (wX2 q (ad 11) v11 ++ wX2 q (ad 12) v12)))))) H90 := hP
                              have hD90 : va_D (va_A (wX5 q ad v0 ++ (wX3 q (ad 1) v1 ++ (wX3 q (ad 2) v2 ++ (wX2 q (ad 9) v9 ++ (wX2 q (ad 10) v10 ++ (wX2 q (ad 11) v11 ++ wX2 q (ad 12) v12)))))) s.heap.size) (wX5 q ad v0 ++ (wX3 q (ad 1) v1 ++ (wX3 q (ad 2) y143.2 ++ (wX2 q (ad 9) v9 ++ (wX2 q (ad 10) v10 ++ (wX2 q (ad 11) v11 ++ wX2 q (ad 12) v12)))))) := hD
                              clear hP hD hP78 hD78 hS78
                              refine lv_if_ge (tgt := 155) hx hb dX5_read_146 (by decide) (fun c146 => ?_) (fun c146 => ?_)
                              · replace hm := tp hm c146
                                refine lv_iinc (v := (z73.2.1 + (1 : Int32))) (lv' := [(7, .int (z73.2.1 + (1 : Int32))), (9, .int (x3 + ((2 : Int32) * z73.2.2.1))), (5, .ref (ad 12 99)), (0, .ref (ad 0 99)), (3, .int x3), (4, .int x4), (6, .int z73.1), (8, .int z73.2.2.1)]) hx hb dX5_read_155 hl83 (k := 6) rfl rfl (by decide) rfl (fun ls91 hl91 => ?_)
                                clear hl83
                                refine lv_iinc (v := (z73.2.2.1 + (1 : Int32))) (lv' := [(8, .int (z73.2.2.1 + (1 : Int32))), (7, .int (z73.2.1 + (1 : Int32))), (9, .int (x3 + ((2 : Int32) * z73.2.2.1))), (5, .ref (ad 12 99)), (0, .ref (ad 0 99)), (3, .int x3), (4, .int x4), (6, .int z73.1)]) hx hb dX5_read_158 hl91 (k := 7) rfl rfl (by decide) rfl (fun ls92 hl92 => ?_)
                                clear hl91
                                refine lv_goto (tgt := 73) hx hb dX5_read_161 (by decide) ?_
                                cases hm
                                exact ih73 (z73.1, (z73.2.1 + (1 : Int32)), (z73.2.2.1 + (1 : Int32)), y143.2) ρ73 hz73 hK73 _ _ hP90 hD90 hS90 _ (lv_sub hl92 [3, 4, 5, 6, 7, 1, 0] rfl)
                              · replace hm := tn hm c146
                                refine lv_bipush (v := (-20 : Int32)) hx hb dX5_read_149 (by decide) ?_
                                refine lv_iload hx hb dX5_read_151 (lv_at hl83 7 rfl) ?_
                                refine lv_isub hx hb dX5_read_153 ?_
                                cases hm
                                cases hz73
                                have hm : (some (((-20 : Int32) - z73.2.2.1), v0, v1, y143.2) : Option (Int32 × SV × SV × SV)) = some res := hK73
                                exact eWi (Wf := fun (uu : SV × SV × SV) => wX5 q ad uu.1 ++ (wX3 q (ad 1) uu.2.1 ++ (wX3 q (ad 2) uu.2.2 ++ (wX2 q (ad 9) v9 ++ (wX2 q (ad 10) v10 ++ (wX2 q (ad 11) v11 ++ wX2 q (ad 12) v12)))))) (u := (v0, v1, y143.2)) X hr hlocks hP90 hD90 hS90 hm dX5_read_154
                            · replace hm := tp hm c112
                              refine lv_iconst (v := (2 : Int32)) hx hb dX5_read_115 (by decide) ?_
                              refine lv_istore (lv' := [(6, .int (2 : Int32)), (9, .int (x3 + ((2 : Int32) * z73.2.2.1))), (5, .ref (ad 12 99)), (0, .ref (ad 0 99)), (3, .int x3), (4, .int x4), (7, .int z73.2.1), (8, .int z73.2.2.1)]) hx hb dX5_read_116 hl83 (by decide) rfl (fun ls86 hl86 => ?_)
                              clear hl83
                              refine lv_goto (tgt := 158) hx hb dX5_read_118 (by decide) ?_
                              refine lv_iinc (v := (z73.2.2.1 + (1 : Int32))) (lv' := [(8, .int (z73.2.2.1 + (1 : Int32))), (6, .int (2 : Int32)), (9, .int (x3 + ((2 : Int32) * z73.2.2.1))), (5, .ref (ad 12 99)), (0, .ref (ad 0 99)), (3, .int x3), (4, .int x4), (7, .int z73.2.1)]) hx hb dX5_read_158 hl86 (k := 7) rfl rfl (by decide) rfl (fun ls87 hl87 => ?_)
                              clear hl86
                              refine lv_goto (tgt := 73) hx hb dX5_read_161 (by decide) ?_
                              cases hm
                              exact ih73 ((2 : Int32), z73.2.1, (z73.2.2.1 + (1 : Int32)), z73.2.2.2) ρ73 hz73 hK73 _ _ hP78 hD78 hS78 _ (lv_sub hl87 [3, 4, 5, 6, 1, 7, 0] rfl)
                  exact hL73 n73 (z54, (0 : Int32), (0 : Int32), y67) r73 hn73 hm _ _ hP75 hD75 hS75 _ (lv_sub hl76 [3, 4, 5, 6, 2, 1, 0] rfl)
                refine lv_if_ne (tgt := 48) hx hb dX5_read_41 (by decide) (fun c41 => ?_) (fun c41 => ?_)
                · replace hm := tn hm c41
                  refine lv_aload hx hb dX5_read_48 (lv_at hl70 0 rfl) ?_
                  refine lv_iload_n hx hb dX5_read_50 rfl (lv_at hl70 3 rfl) ?_
                  obtain ⟨y51, hy51, hm⟩ := bn hm
                  refine cVRi (As := [.int x2]) (rest := []) X hP0 hl70.1 (c_X2_faultAs l D q (ad 12) v12 x2 y51 hy51) [36, 37] rfl 36 rfl rfl rfl k_844 mX2_faultAs ⟨rfl, rfl⟩ ⟨Nat.le_of_ble_eq_true rfl, Nat.le_of_ble_eq_true rfl⟩ rfl rfl (Nat.le_of_ble_eq_true rfl) dX5_read_51 ⟨Nat.zero_le _, Nat.zero_le _⟩ ?_
                  exact hJ54 y51 hm _ _ hP0 hD0 hS0 _ (lv_sub hl70 [0, 1, 4, 5] rfl)
                · replace hm := tp hm c41
                  refine lv_iconst (v := (0 : Int32)) hx hb dX5_read_44 (by decide) ?_
                  refine lv_goto (tgt := 54) hx hb dX5_read_45 (by decide) ?_
                  exact hJ54 (0 : Int32) hm _ _ hP0 hD0 hS0 _ (lv_sub hl70 [0, 1, 4, 5] rfl)
              · replace hm := tn hm c36_3
                cases hm
      · replace hm := tp hm c26
        refine lv_iconst (v := (-1 : Int32)) hx hb dX5_read_29 (by decide) ?_
        exact eWi (Wf := fun (uu : SV × SV × SV) => wX5 q ad uu.1 ++ (wX3 q (ad 1) uu.2.1 ++ (wX3 q (ad 2) uu.2.2 ++ (wX2 q (ad 9) v9 ++ (wX2 q (ad 10) v10 ++ (wX2 q (ad 11) v11 ++ wX2 q (ad 12) v12)))))) (u := (v0, v1, v2)) X hr hlocks hP0 hD0 hS0 hm dX5_read_30
noncomputable def m_X5_torn (v0 : SV) : Option (Int32) :=
  some (v0 0 10)
set_option maxHeartbeats 4000000 in
set_option maxRecDepth 100000 in
theorem c_X5_torn (l : Launch) (D : va_G) (q : Nat → ClassId) (ad : Nat → Nat → Nat) (v0 : SV) (res : Int32) (hm : m_X5_torn v0 = some res) : Met l yX5_torn (mw yX5_torn cX5_torn 1 (some .int)) ({ frames := 0, cells := 0, slots := 0, locals := 0 } : Room) (pcR D q (wX5 q ad v0) [.ref (ad 0 99)]) (vp_Si (fun x => x = res)) 0 0 (fun _ => False) := by
  refine Met.ofW (cc := cX5_torn) (maxL := 1) (ret := (some .int)) (by decide) rfl ?_
  intro p e s m args below meth c s₁ B hml hv
  obtain ⟨rfl, hP0, hK⟩ := hv
  have hx := B.exec
  have hb := B.bytes
  have hr := B.returns
  have hW := mw_ws (atoms_spec (ws := mw yX5_torn cX5_torn 1 (some .int)) B.pre)
  have hown : s.vm.findClass RX5 = some m.cls := findClass_of_methodNamed B.named
  have hlocks := B.notSynchronized
  have X : Cx p s m [.ref (ad 0 99)].toArray c cX5_torn 1 RX5 D q := ⟨hx, hb, hml, hown, hW, hK⟩
  have hl0 := lv_entry ([.ref (ad 0 99)]) (n := 1) (Nat.le_of_ble_eq_true rfl)
  rw [lg_entry_eq]
  generalize (lg_sl ([.ref (ad 0 99)]) ++ List.replicate (1 - (lg_sl ([.ref (ad 0 99)])).length) Slot.unset).toArray = ls0 at hl0 ⊢
  have hl0 : lv_has ls0 1 [(0, .ref (ad 0 99))] := hl0
  unfold m_X5_torn at hm
  refine lv_aload_n hx hb dX5_torn_0 rfl (lv_at hl0 0 rfl) ?_
  refine va_get (D := D) (ci := 5) (v := .int (v0 0 10)) (C := RX5) (T := TX5) (N := 11) hx hb hW iX5 hown hK hP0 0 rfl rfl 10 (by decide) (hW _ k_318) (fun _ h => h) rfl dX5_torn_1 ?_
  exact eRi  X hr hlocks hm dX5_torn_4
noncomputable def m_X5_count (v0 : SV) (v1 : SV) (v5 : SV) (v6 : SV) (v7 : SV) (v9 : SV) (x1 : Int32) : Option (Int32) :=
  (if x1 = (0 : Int32) then some (v7 0 0) else (if x1 = (1 : Int32) then (if (v0 4 (Int32.toNatClampNeg (0 : Int32))) = 0 then (if (v0 4 (Int32.toNatClampNeg (1 : Int32))) = 0 then some ((0 : Int32) + (0 : Int32)) else some ((0 : Int32) + (1 : Int32))) else (if (v0 4 (Int32.toNatClampNeg (1 : Int32))) = 0 then some ((1 : Int32) + (0 : Int32)) else some ((1 : Int32) + (1 : Int32)))) else (if x1 = (2 : Int32) then some (v5 0 1) else (if x1 = (3 : Int32) then (m_X2_isThere v9).bind (fun y96 => (if y96 = 0 then some (-4 : Int32) else some (v9 0 1))) else (if x1 = (4 : Int32) then (m_X3_sumOf v1 6 (v1 7)).bind (fun y128 => some y128) else (if x1 = (5 : Int32) then (m_X3_likeBonds v1).bind (fun y136 => some y136) else (if x1 = (6 : Int32) then (m_X3_sumOf v1 6 (v1 6)).bind (fun y151 => some y151) else some (-1 : Int32))))))))
set_option maxHeartbeats 4000000 in
set_option maxRecDepth 100000 in
theorem c_X5_count (l : Launch) (D : va_G) (q : Nat → ClassId) (ad : Nat → Nat → Nat) (v0 : SV) (v1 : SV) (v5 : SV) (v6 : SV) (v7 : SV) (v9 : SV) (x1 : Int32) (res : Int32) (hm : m_X5_count v0 v1 v5 v6 v7 v9 x1 = some res) : Met l yX5_count (mw yX5_count cX5_count 2 (some .int)) ({ frames := 5, cells := 0, slots := 0, locals := 111 } : Room) (pcR D q (wX5 q ad v0 ++ (wX3 q (ad 1) v1 ++ (wX0 q (ad 5) v5 (ad 6 99) ++ (wX3 q (ad 6) v6 ++ (wX1 q (ad 7) v7 ++ wX2 q (ad 9) v9))))) [.ref (ad 0 99), .int x1]) (vp_Si (fun x => x = res)) 0 0 (fun _ => False) := by
  refine Met.ofW (cc := cX5_count) (maxL := 2) (ret := (some .int)) (by decide) rfl ?_
  intro p e s m args below meth c s₁ B hml hv
  obtain ⟨rfl, hP0, hK⟩ := hv
  have hx := B.exec
  have hb := B.bytes
  have hr := B.returns
  have hW := mw_ws (atoms_spec (ws := mw yX5_count cX5_count 2 (some .int)) B.pre)
  have hown : s.vm.findClass RX5 = some m.cls := findClass_of_methodNamed B.named
  have hlocks := B.notSynchronized
  have X : Cx p s m [.ref (ad 0 99), .int x1].toArray c cX5_count 2 RX5 D q := ⟨hx, hb, hml, hown, hW, hK⟩
  have hl0 := lv_entry ([.ref (ad 0 99), .int x1]) (n := 2) (Nat.le_of_ble_eq_true rfl)
  rw [lg_entry_eq]
  generalize (lg_sl ([.ref (ad 0 99), .int x1]) ++ List.replicate (2 - (lg_sl ([.ref (ad 0 99), .int x1])).length) Slot.unset).toArray = ls0 at hl0 ⊢
  have hl0 : lv_has ls0 2 [(0, .ref (ad 0 99)), (1, .int x1)] := hl0
  unfold m_X5_count at hm
  refine lv_iload_n hx hb dX5_count_0 rfl (lv_at hl0 1 rfl) ?_
  by_cases c1_0 : x1 = (0 : Int32)
  · replace hm := tp hm c1_0
    refine lv_tableIn (off := 43) (tgt := 44) hx hb dX5_count_1 (by rw [c1_0]; decide) (by rw [c1_0]; decide) (by rw [c1_0]; rfl) (by decide) ?_
    refine lv_aload_n hx hb dX5_count_44 rfl (lv_at hl0 0 rfl) ?_
    refine va_get (D := D) (ci := 5) (v := .ref (ad 7 99)) (C := RX5) (T := TX5) (N := 11) hx hb hW iX5 hown hK hP0 0 rfl rfl 5 (by decide) (hW _ k_313) (fun _ h => h) rfl dX5_count_45 ?_
    refine va_get (D := D) (ci := 1) (v := .int (v7 0 0)) (C := RX1) (T := TX1) (N := 4) hx hb hW iX1 hown hK hP0 32 rfl rfl 0 (by decide) (hW _ k_228) (fun _ h => h) rfl dX5_count_48 ?_
    exact eRi  X hr hlocks hm dX5_count_51
  · replace hm := tn hm c1_0
    by_cases c1_1 : x1 = (1 : Int32)
    · replace hm := tp hm c1_1
      refine lv_tableIn (off := 51) (tgt := 52) hx hb dX5_count_1 (by rw [c1_1]; decide) (by rw [c1_1]; decide) (by rw [c1_1]; rfl) (by decide) ?_
      refine lv_aload_n hx hb dX5_count_52 rfl (lv_at hl0 0 rfl) ?_
      refine va_get (D := D) (ci := 5) (v := .ref (ad 0 4)) (C := RX5) (T := TX5) (N := 11) hx hb hW iX5 hown hK hP0 0 rfl rfl 4 (by decide) (hW _ k_312) (fun _ h => h) rfl dX5_count_53 ?_
      refine lv_iconst (v := (0 : Int32)) hx hb dX5_count_56 (by decide) ?_
      refine va_zald (f := (v0 4)) hx hb hK hP0 2 2 rfl rfl (inB_vp (by decide)) dX5_count_57 ?_
      refine lv_if_eq (tgt := 65) hx hb dX5_count_58 (by decide) (fun c58 => ?_) (fun c58 => ?_)
      · replace hm := tp hm c58
        refine lv_iconst (v := (0 : Int32)) hx hb dX5_count_65 (by decide) ?_
        refine lv_aload_n hx hb dX5_count_66 rfl (lv_at hl0 0 rfl) ?_
        refine va_get (D := D) (ci := 5) (v := .ref (ad 0 4)) (C := RX5) (T := TX5) (N := 11) hx hb hW iX5 hown hK hP0 0 rfl rfl 4 (by decide) (hW _ k_312) (fun _ h => h) rfl dX5_count_67 ?_
        refine lv_iconst (v := (1 : Int32)) hx hb dX5_count_70 (by decide) ?_
        refine va_zald (f := (v0 4)) hx hb hK hP0 2 2 rfl rfl (inB_vp (by decide)) dX5_count_71 ?_
        refine lv_if_eq (tgt := 79) hx hb dX5_count_72 (by decide) (fun c72 => ?_) (fun c72 => ?_)
        · replace hm := tp hm c72
          refine lv_iconst (v := (0 : Int32)) hx hb dX5_count_79 (by decide) ?_
          refine lv_iadd hx hb dX5_count_80 ?_
          exact eRi  X hr hlocks hm dX5_count_81
        · replace hm := tn hm c72
          refine lv_iconst (v := (1 : Int32)) hx hb dX5_count_75 (by decide) ?_
          refine lv_goto (tgt := 80) hx hb dX5_count_76 (by decide) ?_
          refine lv_iadd hx hb dX5_count_80 ?_
          exact eRi  X hr hlocks hm dX5_count_81
      · replace hm := tn hm c58
        refine lv_iconst (v := (1 : Int32)) hx hb dX5_count_61 (by decide) ?_
        refine lv_goto (tgt := 66) hx hb dX5_count_62 (by decide) ?_
        refine lv_aload_n hx hb dX5_count_66 rfl (lv_at hl0 0 rfl) ?_
        refine va_get (D := D) (ci := 5) (v := .ref (ad 0 4)) (C := RX5) (T := TX5) (N := 11) hx hb hW iX5 hown hK hP0 0 rfl rfl 4 (by decide) (hW _ k_312) (fun _ h => h) rfl dX5_count_67 ?_
        refine lv_iconst (v := (1 : Int32)) hx hb dX5_count_70 (by decide) ?_
        refine va_zald (f := (v0 4)) hx hb hK hP0 2 2 rfl rfl (inB_vp (by decide)) dX5_count_71 ?_
        refine lv_if_eq (tgt := 79) hx hb dX5_count_72 (by decide) (fun c72 => ?_) (fun c72 => ?_)
        · replace hm := tp hm c72
          refine lv_iconst (v := (0 : Int32)) hx hb dX5_count_79 (by decide) ?_
          refine lv_iadd hx hb dX5_count_80 ?_
          exact eRi  X hr hlocks hm dX5_count_81
        · replace hm := tn hm c72
          refine lv_iconst (v := (1 : Int32)) hx hb dX5_count_75 (by decide) ?_
          refine lv_goto (tgt := 80) hx hb dX5_count_76 (by decide) ?_
          refine lv_iadd hx hb dX5_count_80 ?_
          exact eRi  X hr hlocks hm dX5_count_81
    · replace hm := tn hm c1_1
      by_cases c1_2 : x1 = (2 : Int32)
      · replace hm := tp hm c1_2
        refine lv_tableIn (off := 81) (tgt := 82) hx hb dX5_count_1 (by rw [c1_2]; decide) (by rw [c1_2]; decide) (by rw [c1_2]; rfl) (by decide) ?_
        refine lv_aload_n hx hb dX5_count_82 rfl (lv_at hl0 0 rfl) ?_
        refine va_get (D := D) (ci := 5) (v := .ref (ad 5 99)) (C := RX5) (T := TX5) (N := 11) hx hb hW iX5 hown hK hP0 0 rfl rfl 0 (by decide) (hW _ k_308) (fun _ h => h) rfl dX5_count_83 ?_
        refine va_get (D := D) (ci := 0) (v := .int (v5 0 1)) (C := RX0) (T := TX0) (N := 13) hx hb hW iX0 hown hK hP0 18 rfl rfl 1 (by decide) (hW _ k_176) (fun _ h => h) rfl dX5_count_86 ?_
        exact eRi  X hr hlocks hm dX5_count_89
      · replace hm := tn hm c1_2
        by_cases c1_3 : x1 = (3 : Int32)
        · replace hm := tp hm c1_3
          refine lv_tableIn (off := 89) (tgt := 90) hx hb dX5_count_1 (by rw [c1_3]; decide) (by rw [c1_3]; decide) (by rw [c1_3]; rfl) (by decide) ?_
          refine lv_aload_n hx hb dX5_count_90 rfl (lv_at hl0 0 rfl) ?_
          refine va_get (D := D) (ci := 5) (v := .ref (ad 0 7)) (C := RX5) (T := TX5) (N := 11) hx hb hW iX5 hown hK hP0 0 rfl rfl 7 (by decide) (hW _ k_315) (fun _ h => h) rfl dX5_count_91 ?_
          refine lv_iconst (v := (0 : Int32)) hx hb dX5_count_94 (by decide) ?_
          refine r_aald (bb := (ad 9 99)) hx hb hK hP0 3 4 rfl rfl (inB_vp (by decide)) rfl dX5_count_95 ?_
          obtain ⟨y96, hy96, hm⟩ := bn hm
          refine cVRi (As := []) (rest := []) X hP0 hl0.1 (c_X2_isThere l D q (ad 9) v9 y96 hy96) [36, 37] rfl 36 rfl rfl rfl k_828 mX2_isThere ⟨rfl, rfl⟩ ⟨Nat.le_of_ble_eq_true rfl, Nat.le_of_ble_eq_true rfl⟩ rfl rfl (Nat.le_of_ble_eq_true rfl) dX5_count_96 ⟨Nat.zero_le _, Nat.zero_le _⟩ ?_
          refine lv_if_eq (tgt := 114) hx hb dX5_count_99 (by decide) (fun c99 => ?_) (fun c99 => ?_)
          · replace hm := tp hm c99
            refine lv_bipush (v := (-4 : Int32)) hx hb dX5_count_114 (by decide) ?_
            exact eRi  X hr hlocks hm dX5_count_116
          · replace hm := tn hm c99
            refine lv_aload_n hx hb dX5_count_102 rfl (lv_at hl0 0 rfl) ?_
            refine va_get (D := D) (ci := 5) (v := .ref (ad 0 7)) (C := RX5) (T := TX5) (N := 11) hx hb hW iX5 hown hK hP0 0 rfl rfl 7 (by decide) (hW _ k_315) (fun _ h => h) rfl dX5_count_103 ?_
            refine lv_iconst (v := (0 : Int32)) hx hb dX5_count_106 (by decide) ?_
            refine r_aald (bb := (ad 9 99)) hx hb hK hP0 3 4 rfl rfl (inB_vp (by decide)) rfl dX5_count_107 ?_
            refine va_get (D := D) (ci := 2) (v := .int (v9 0 1)) (C := RX2) (T := TX2) (N := 3) hx hb hW iX2 hown hK hP0 36 rfl rfl 1 (by decide) (hW _ k_298) (fun _ h => h) rfl dX5_count_108 ?_
            refine lv_goto (tgt := 116) hx hb dX5_count_111 (by decide) ?_
            exact eRi  X hr hlocks hm dX5_count_116
        · replace hm := tn hm c1_3
          by_cases c1_4 : x1 = (4 : Int32)
          · replace hm := tp hm c1_4
            refine lv_tableIn (off := 116) (tgt := 117) hx hb dX5_count_1 (by rw [c1_4]; decide) (by rw [c1_4]; decide) (by rw [c1_4]; rfl) (by decide) ?_
            refine lv_aload_n hx hb dX5_count_117 rfl (lv_at hl0 0 rfl) ?_
            refine va_get (D := D) (ci := 5) (v := .ref (ad 1 99)) (C := RX5) (T := TX5) (N := 11) hx hb hW iX5 hown hK hP0 0 rfl rfl 1 (by decide) (hW _ k_309) (fun _ h => h) rfl dX5_count_118 ?_
            refine lv_aload_n hx hb dX5_count_121 rfl (lv_at hl0 0 rfl) ?_
            refine va_get (D := D) (ci := 5) (v := .ref (ad 1 99)) (C := RX5) (T := TX5) (N := 11) hx hb hW iX5 hown hK hP0 0 rfl rfl 1 (by decide) (hW _ k_309) (fun _ h => h) rfl dX5_count_122 ?_
            refine va_get (D := D) (ci := 3) (v := .ref (ad 1 7)) (C := RX3) (T := TX3) (N := 17) hx hb hW iX3 hown hK hP0 6 rfl rfl 7 (by decide) (hW _ k_106) (fun _ h => h) rfl dX5_count_125 ?_
            obtain ⟨y128, hy128, hm⟩ := bn hm
            refine cVRi (As := [.ref (ad 1 7)]) (rest := []) X hP0 hl0.1 (c_X3_sumOf l D q (ad 1) v1 (ad 1 7) 6 (v1 7) y128 hy128) [6, 7, 8, 9, 10, 11, 12, 13, 14, 15, 16, 17, 8] rfl 6 rfl rfl rfl k_857 mX3_sumOf ⟨rfl, rfl⟩ ⟨Nat.le_of_ble_eq_true rfl, Nat.le_of_ble_eq_true rfl⟩ rfl rfl (Nat.le_of_ble_eq_true rfl) dX5_count_128 ⟨Nat.zero_le _, Nat.zero_le _⟩ ?_
            exact eRi  X hr hlocks hm dX5_count_131
          · replace hm := tn hm c1_4
            by_cases c1_5 : x1 = (5 : Int32)
            · replace hm := tp hm c1_5
              refine lv_tableIn (off := 131) (tgt := 132) hx hb dX5_count_1 (by rw [c1_5]; decide) (by rw [c1_5]; decide) (by rw [c1_5]; rfl) (by decide) ?_
              refine lv_aload_n hx hb dX5_count_132 rfl (lv_at hl0 0 rfl) ?_
              refine va_get (D := D) (ci := 5) (v := .ref (ad 1 99)) (C := RX5) (T := TX5) (N := 11) hx hb hW iX5 hown hK hP0 0 rfl rfl 1 (by decide) (hW _ k_309) (fun _ h => h) rfl dX5_count_133 ?_
              obtain ⟨y136, hy136, hm⟩ := bn hm
              refine cVRi (As := []) (rest := []) X hP0 hl0.1 (c_X3_likeBonds l D q (ad 1) v1 y136 hy136) [6, 7, 8, 9, 10, 11, 12, 13, 14, 15, 16, 17] rfl 6 rfl rfl rfl k_719 mX3_likeBonds ⟨rfl, rfl⟩ ⟨Nat.le_of_ble_eq_true rfl, Nat.le_of_ble_eq_true rfl⟩ rfl rfl (Nat.le_of_ble_eq_true rfl) dX5_count_136 ⟨Nat.zero_le _, Nat.zero_le _⟩ ?_
              exact eRi  X hr hlocks hm dX5_count_139
            · replace hm := tn hm c1_5
              by_cases c1_6 : x1 = (6 : Int32)
              · replace hm := tp hm c1_6
                refine lv_tableIn (off := 139) (tgt := 140) hx hb dX5_count_1 (by rw [c1_6]; decide) (by rw [c1_6]; decide) (by rw [c1_6]; rfl) (by decide) ?_
                refine lv_aload_n hx hb dX5_count_140 rfl (lv_at hl0 0 rfl) ?_
                refine va_get (D := D) (ci := 5) (v := .ref (ad 1 99)) (C := RX5) (T := TX5) (N := 11) hx hb hW iX5 hown hK hP0 0 rfl rfl 1 (by decide) (hW _ k_309) (fun _ h => h) rfl dX5_count_141 ?_
                refine lv_aload_n hx hb dX5_count_144 rfl (lv_at hl0 0 rfl) ?_
                refine va_get (D := D) (ci := 5) (v := .ref (ad 1 99)) (C := RX5) (T := TX5) (N := 11) hx hb hW iX5 hown hK hP0 0 rfl rfl 1 (by decide) (hW _ k_309) (fun _ h => h) rfl dX5_count_145 ?_
                refine va_get (D := D) (ci := 3) (v := .ref (ad 1 6)) (C := RX3) (T := TX3) (N := 17) hx hb hW iX3 hown hK hP0 6 rfl rfl 6 (by decide) (hW _ k_103) (fun _ h => h) rfl dX5_count_148 ?_
                obtain ⟨y151, hy151, hm⟩ := bn hm
                refine cVRi (As := [.ref (ad 1 6)]) (rest := []) X hP0 hl0.1 (c_X3_sumOf l D q (ad 1) v1 (ad 1 6) 6 (v1 6) y151 hy151) [6, 7, 8, 9, 10, 11, 12, 13, 14, 15, 16, 17, 7] rfl 6 rfl rfl rfl k_857 mX3_sumOf ⟨rfl, rfl⟩ ⟨Nat.le_of_ble_eq_true rfl, Nat.le_of_ble_eq_true rfl⟩ rfl rfl (Nat.le_of_ble_eq_true rfl) dX5_count_151 ⟨Nat.zero_le _, Nat.zero_le _⟩ ?_
                exact eRi  X hr hlocks hm dX5_count_154
              · replace hm := tn hm c1_6
                have hk1 : x1.toInt < 0 ∨ 6 < x1.toInt := by
                  have g0 := lv_neT c1_0 (show ((0 : Int32)).toInt = 0 from rfl)
                  have g1 := lv_neT c1_1 (show ((1 : Int32)).toInt = 1 from rfl)
                  have g2 := lv_neT c1_2 (show ((2 : Int32)).toInt = 2 from rfl)
                  have g3 := lv_neT c1_3 (show ((3 : Int32)).toInt = 3 from rfl)
                  have g4 := lv_neT c1_4 (show ((4 : Int32)).toInt = 4 from rfl)
                  have g5 := lv_neT c1_5 (show ((5 : Int32)).toInt = 5 from rfl)
                  have g6 := lv_neT c1_6 (show ((6 : Int32)).toInt = 6 from rfl)
                  omega
                refine lv_tableOut (tgt := 155) hx hb dX5_count_1 hk1 (by decide) ?_
                refine lv_iconst (v := (-1 : Int32)) hx hb dX5_count_155 (by decide) ?_
                exact eRi  X hr hlocks hm dX5_count_156
