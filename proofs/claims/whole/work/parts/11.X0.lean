noncomputable def m_X0_take (v : SV) (u : SV) (x1 : Int32) : Option (Int32 × SV) :=
  (if (v 0 1) < (160 : Int32) then ck (inB (v 0 1) 160) (lett (up2 v 50 (((v 0 1)).toNatClampNeg) (vp_nar .byte (x1.toInt8.toInt32))) (fun v2_ => lett (up2 v2_ 0 1 ((v2_ 0 1) + (1 : Int32))) (fun v3_ => some ((1 : Int32), v3_)))) else some ((0 : Int32), v))
set_option maxHeartbeats 4000000 in
set_option maxRecDepth 100000 in
theorem c_X0_take (l : Launch) (D : va_G) (q : Nat → ClassId) (sz : Nat) (a : Nat → Nat) (v : SV) (b : Nat → Nat) (u : SV) (x1 : Int32) (res : Int32 × SV) (hm : m_X0_take v u x1 = some res) : Met l yX0_take (mw yX0_take cX0_take 2 (some .boolean)) ({ frames := 0, cells := 0, slots := 0, locals := 0 } : Room) (pcW D q (wX0 q a v (b 99) ++ wX3 q b u) sz [.ref (a 99), .int x1]) (va_Qi (fun r w => r = res.1 ∧ w = res.2) (bW D q (wX0 q a v (b 99) ++ wX3 q b u) sz (fun (uu : SV) => wX0 q a uu (b 99) ++ wX3 q b u)) (va_A (wX0 q a v (b 99) ++ wX3 q b u) sz)) 0 0 (va_A (wX0 q a v (b 99) ++ wX3 q b u) sz) := by
  refine Met.ofW (cc := cX0_take) (maxL := 2) (ret := (some .boolean)) (by decide) rfl ?_
  intro p e s m args below meth c s₁ B hml hv
  obtain ⟨rfl, hsz, hP0, hK, hD0⟩ := hv
  have hx := B.exec
  have hb := B.bytes
  have hr := B.returns
  have hW := mw_ws (atoms_spec (ws := mw yX0_take cX0_take 2 (some .boolean)) B.pre)
  have hown : s.vm.findClass RX0 = some m.cls := findClass_of_methodNamed B.named
  have hlocks := B.notSynchronized
  have X : Cx p s m [.ref (a 99), .int x1].toArray c cX0_take 2 RX0 D q := ⟨hx, hb, hml, hown, hW, hK⟩
  subst hsz
  replace hD0 := hD0.self (sz := s.heap.size)
  have hS0 : va_S (va_A (wX0 q a v (b 99) ++ wX3 q b u) s.heap.size) s.heap s.heap [] := va_S.rf
  have hl0 := lv_entry ([.ref (a 99), .int x1]) (n := 2) (Nat.le_of_ble_eq_true rfl)
  rw [lg_entry_eq]
  generalize (lg_sl ([.ref (a 99), .int x1]) ++ List.replicate (2 - (lg_sl ([.ref (a 99), .int x1])).length) Slot.unset).toArray = ls0 at hl0 ⊢
  have hl0 : lv_has ls0 2 [(0, .ref (a 99)), (1, .int x1)] := hl0
  unfold m_X0_take at hm
  refine lv_aload_n hx hb dX0_take_0 rfl (lv_at hl0 0 rfl) ?_
  refine va_get (D := D) (ci := 0) (v := .int (v 0 1)) (C := RX0) (T := TX0) (N := 13) hx hb hW iX0 hown hK hP0 0 rfl rfl 1 (by decide) (hW _ k_175) (fun _ h => h) rfl dX0_take_1 ?_
  refine lv_sipush (v := (160 : Int32)) hx hb dX0_take_4 (by decide) ?_
  refine lv_icmp_lt (tgt := 12) hx hb dX0_take_7 (by decide) (fun c7 => ?_) (fun c7 => ?_)
  · replace hm := tp hm c7
    refine lv_aload_n hx hb dX0_take_12 rfl (lv_at hl0 0 rfl) ?_
    refine va_get (D := D) (ci := 0) (v := .ref (a 0)) (C := RX0) (T := TX0) (N := 13) hx hb hW iX0 hown hK hP0 0 rfl rfl 0 (by decide) (hW _ k_174) (fun _ h => h) rfl dX0_take_13 ?_
    refine lv_aload_n hx hb dX0_take_16 rfl (lv_at hl0 0 rfl) ?_
    refine va_get (D := D) (ci := 0) (v := .int (v 0 1)) (C := RX0) (T := TX0) (N := 13) hx hb hW iX0 hown hK hP0 0 rfl rfl 1 (by decide) (hW _ k_175) (fun _ h => h) rfl dX0_take_17 ?_
    refine lv_iload_n hx hb dX0_take_20 rfl (lv_at hl0 1 rfl) ?_
    refine lv_i2b hx hb dX0_take_21 rfl ?_
    obtain ⟨h1, hm⟩ := ckd hm
    refine va_bast (f := (v 50)) hx hb hK hP0 hD0 hS0 1 1 rfl rfl (inB_vp h1) dX0_take_22 (fun H2 locs2 hP hD hS2 => ?_)
    obtain ⟨v2_, e2, hm⟩ := ltd hm
    have hP2 : va_P D cls (wX0 q a v2_ (b 99) ++ wX3 q b u) H2 := by rw [e2]; exact hP
    have hD2 : va_D (va_A (wX0 q a v (b 99) ++ wX3 q b u) s.heap.size) (wX0 q a v2_ (b 99) ++ wX3 q b u) := by rw [e2]; exact hD
    clear hP hD hP0 hD0 hS0
    refine lv_aload_n hx hb dX0_take_23 rfl (lv_at hl0 0 rfl) ?_
    refine lv_dup hx hb dX0_take_24 rfl ?_
    refine va_get (D := D) (ci := 0) (v := .int (v2_ 0 1)) (C := RX0) (T := TX0) (N := 13) hx hb hW iX0 hown hK hP2 0 rfl rfl 1 (by decide) (hW _ k_175) (fun _ h => h) rfl dX0_take_25 ?_
    refine lv_iconst (v := (1 : Int32)) hx hb dX0_take_28 (by decide) ?_
    refine lv_iadd hx hb dX0_take_29 ?_
    refine va_put (D := D) (ci := 0) (v := .int ((v2_ 0 1) + (1 : Int32))) (ty := .int) (C := RX0) (T := TX0) (N := 13) hx hb hW iX0 tyX0 tyX0_ok nmX0 hown hK hP2 hD2 hS2 0 rfl rfl 1 (by decide) (hW _ k_175) (fun _ h => h) rfl (by decide +kernel) rfl rfl (Nat.le_of_ble_eq_true rfl) dX0_take_30 (fun H3 locs3 hP hD hS3 => ?_)
    obtain ⟨v3_, e3, hm⟩ := ltd hm
    have hP3 : va_P D cls (wX0 q a v3_ (b 99) ++ wX3 q b u) H3 := by rw [e3]; exact hP
    have hD3 : va_D (va_A (wX0 q a v (b 99) ++ wX3 q b u) s.heap.size) (wX0 q a v3_ (b 99) ++ wX3 q b u) := by rw [e3]; exact hD
    clear hP hD hP2 hD2 hS2
    refine lv_iconst (v := (1 : Int32)) hx hb dX0_take_33 (by decide) ?_
    exact eWz (Wf := fun (uu : SV) => wX0 q a uu (b 99) ++ wX3 q b u) (u := v3_) X hr hlocks rfl hP3 hD3 hS3 hm dX0_take_34
  · replace hm := tn hm c7
    refine lv_iconst (v := (0 : Int32)) hx hb dX0_take_10 (by decide) ?_
    exact eWz (Wf := fun (uu : SV) => wX0 q a uu (b 99) ++ wX3 q b u) (u := v) X hr hlocks rfl hP0 hD0 hS0 hm dX0_take_11
noncomputable def m_X0_runEnd_K5 (z5 : Int32) : Option (Int32) :=
  some z5
noncomputable def m_X0_runEnd_L5 (v : SV) (x1 : Int32) (x2 : Int32) (z5 : Int32) : Option ((Int32) ⊕ (Int32)) :=
  (if (v 0 1) ≤ z5 then some (.inr z5) else ck (inB z5 160) ((if (v 50 ((z5).toNatClampNeg)) < x1 then some (.inr z5) else ck (inB z5 160) ((if x2 < (v 50 ((z5).toNatClampNeg)) then some (.inr z5) else some (.inl (z5 + (1 : Int32))))))))
noncomputable def m_X0_runEnd (v : SV) (u : SV) (x1 : Int32) (x2 : Int32) : Option (Int32) :=
  (lpC (m_X0_runEnd_L5 v x1 x2) (v 0 7)).bind (m_X0_runEnd_K5)
set_option maxHeartbeats 4000000 in
set_option maxRecDepth 100000 in
theorem c_X0_runEnd (l : Launch) (D : va_G) (q : Nat → ClassId) (a : Nat → Nat) (v : SV) (b : Nat → Nat) (u : SV) (x1 : Int32) (x2 : Int32) (res : Int32) (hm : m_X0_runEnd v u x1 x2 = some res) : Met l yX0_runEnd (mw yX0_runEnd cX0_runEnd 4 (some .int)) ({ frames := 0, cells := 0, slots := 0, locals := 0 } : Room) (pcR D q (wX0 q a v (b 99) ++ wX3 q b u) [.ref (a 99), .int x1, .int x2]) (vp_Si (fun x => x = res)) 0 0 (fun _ => False) := by
  refine Met.ofW (cc := cX0_runEnd) (maxL := 4) (ret := (some .int)) (by decide) rfl ?_
  intro p e s m args below meth c s₁ B hml hv
  obtain ⟨rfl, hP0, hK⟩ := hv
  have hx := B.exec
  have hb := B.bytes
  have hr := B.returns
  have hW := mw_ws (atoms_spec (ws := mw yX0_runEnd cX0_runEnd 4 (some .int)) B.pre)
  have hown : s.vm.findClass RX0 = some m.cls := findClass_of_methodNamed B.named
  have hlocks := B.notSynchronized
  have X : Cx p s m [.ref (a 99), .int x1, .int x2].toArray c cX0_runEnd 4 RX0 D q := ⟨hx, hb, hml, hown, hW, hK⟩
  have hl0 := lv_entry ([.ref (a 99), .int x1, .int x2]) (n := 4) (Nat.le_of_ble_eq_true rfl)
  rw [lg_entry_eq]
  generalize (lg_sl ([.ref (a 99), .int x1, .int x2]) ++ List.replicate (4 - (lg_sl ([.ref (a 99), .int x1, .int x2])).length) Slot.unset).toArray = ls0 at hl0 ⊢
  have hl0 : lv_has ls0 4 [(0, .ref (a 99)), (1, .int x1), (2, .int x2)] := hl0
  unfold m_X0_runEnd at hm
  refine lv_aload_n hx hb dX0_runEnd_0 rfl (lv_at hl0 0 rfl) ?_
  refine va_get (D := D) (ci := 0) (v := .int (v 0 7)) (C := RX0) (T := TX0) (N := 13) hx hb hW iX0 hown hK hP0 0 rfl rfl 7 (by decide) (hW _ k_184) (fun _ h => h) rfl dX0_runEnd_1 ?_
  refine lv_istore_n (lv' := [(3, .int (v 0 7)), (0, .ref (a 99)), (1, .int x1), (2, .int x2)]) hx hb dX0_runEnd_4 rfl hl0 (by decide) rfl (fun ls1 hl1 => ?_)
  clear hl0
  obtain ⟨r5, hr5, hm⟩ := bn hm
  obtain ⟨n5, hn5⟩ := lpC_ex hr5
  have hE5 : ∀ z5 : Int32, m_X0_runEnd_K5 z5 = some res → ∀ ls : Array Slot, lv_has ls 4 [(3, .int z5)] → W p l e ((headSpec (mw yX0_runEnd cX0_runEnd 4 (some .int)) ({ frames := 0, cells := 0, slots := 0, locals := 0 } : Room)).room) s m [.ref (a 99), .int x1, .int x2].toArray below meth c s.heap [] 0 0 (MQ below (vp_Si (fun x => x = res)) [.ref (a 99), .int x1, .int x2].toArray s 0 0 (fun _ => False)) (F0 m 39 ls []) := by
    intro z5 hm ls3 hl3
    unfold m_X0_runEnd_K5 at hm
    refine lv_iload_n hx hb dX0_runEnd_39 rfl (lv_at hl3 0 rfl) ?_
    exact eRi  X hr hlocks hm dX0_runEnd_40
  have hL5 : ∀ (n : Nat) (z5 : Int32) (ρ5 : Int32), lpO (m_X0_runEnd_L5 v x1 x2) n z5 = some ρ5 → (m_X0_runEnd_K5) ρ5 = some res → ∀ ls : Array Slot, lv_has ls 4 [(0, .ref (a 99)), (1, .int x1), (2, .int x2), (3, .int z5)] → W p l e ((headSpec (mw yX0_runEnd cX0_runEnd 4 (some .int)) ({ frames := 0, cells := 0, slots := 0, locals := 0 } : Room)).room) s m [.ref (a 99), .int x1, .int x2].toArray below meth c s.heap [] 0 0 (MQ below (vp_Si (fun x => x = res)) [.ref (a 99), .int x1, .int x2].toArray s 0 0 (fun _ => False)) (F0 m 5 ls []) := by
    intro n
    induction n with
    | zero => intro _ _ h; cases h
    | succ n ih5 =>
      intro z5 ρ5 hz5 hK5 ls2 hl2
      obtain ⟨t5, hm, hz5⟩ := bn hz5
      unfold m_X0_runEnd_L5 at hm
      refine lv_iload_n hx hb dX0_runEnd_5 rfl (lv_at hl2 3 rfl) ?_
      refine lv_aload_n hx hb dX0_runEnd_6 rfl (lv_at hl2 0 rfl) ?_
      refine va_get (D := D) (ci := 0) (v := .int (v 0 1)) (C := RX0) (T := TX0) (N := 13) hx hb hW iX0 hown hK hP0 0 rfl rfl 1 (by decide) (hW _ k_175) (fun _ h => h) rfl dX0_runEnd_7 ?_
      refine lv_icmp_ge (tgt := 39) hx hb dX0_runEnd_10 (by decide) (fun c10 => ?_) (fun c10 => ?_)
      · replace hm := tp hm c10
        cases hm
        cases hz5
        exact hE5 z5 hK5 _ (lv_sub hl2 [3] rfl)
      · replace hm := tn hm c10
        refine lv_aload_n hx hb dX0_runEnd_13 rfl (lv_at hl2 0 rfl) ?_
        refine va_get (D := D) (ci := 0) (v := .ref (a 0)) (C := RX0) (T := TX0) (N := 13) hx hb hW iX0 hown hK hP0 0 rfl rfl 0 (by decide) (hW _ k_174) (fun _ h => h) rfl dX0_runEnd_14 ?_
        refine lv_iload_n hx hb dX0_runEnd_17 rfl (lv_at hl2 3 rfl) ?_
        obtain ⟨h4, hm⟩ := ckd hm
        refine va_bald (f := (v 50)) hx hb hK hP0 1 1 rfl rfl (inB_vp h4) dX0_runEnd_18 ?_
        refine lv_iload_n hx hb dX0_runEnd_19 rfl (lv_at hl2 1 rfl) ?_
        refine lv_icmp_lt (tgt := 39) hx hb dX0_runEnd_20 (by decide) (fun c20 => ?_) (fun c20 => ?_)
        · replace hm := tp hm c20
          cases hm
          cases hz5
          exact hE5 z5 hK5 _ (lv_sub hl2 [3] rfl)
        · replace hm := tn hm c20
          refine lv_aload_n hx hb dX0_runEnd_23 rfl (lv_at hl2 0 rfl) ?_
          refine va_get (D := D) (ci := 0) (v := .ref (a 0)) (C := RX0) (T := TX0) (N := 13) hx hb hW iX0 hown hK hP0 0 rfl rfl 0 (by decide) (hW _ k_174) (fun _ h => h) rfl dX0_runEnd_24 ?_
          refine lv_iload_n hx hb dX0_runEnd_27 rfl (lv_at hl2 3 rfl) ?_
          obtain ⟨h5, hm⟩ := ckd hm
          refine va_bald (f := (v 50)) hx hb hK hP0 1 1 rfl rfl (inB_vp h5) dX0_runEnd_28 ?_
          refine lv_iload_n hx hb dX0_runEnd_29 rfl (lv_at hl2 2 rfl) ?_
          refine lv_icmp_gt (tgt := 39) hx hb dX0_runEnd_30 (by decide) (fun c30 => ?_) (fun c30 => ?_)
          · replace hm := tp hm c30
            cases hm
            cases hz5
            exact hE5 z5 hK5 _ (lv_sub hl2 [3] rfl)
          · replace hm := tn hm c30
            refine lv_iinc (v := (z5 + (1 : Int32))) (lv' := [(3, .int (z5 + (1 : Int32))), (0, .ref (a 99)), (1, .int x1), (2, .int x2)]) hx hb dX0_runEnd_33 hl2 (k := 3) rfl rfl (by decide) rfl (fun ls6 hl6 => ?_)
            clear hl2
            refine lv_goto (tgt := 5) hx hb dX0_runEnd_36 (by decide) ?_
            cases hm
            exact ih5 (z5 + (1 : Int32)) ρ5 hz5 hK5 _ (lv_sub hl6 [1, 2, 3, 0] rfl)
  exact hL5 n5 (v 0 7) r5 hn5 hm _ (lv_sub hl1 [1, 2, 3, 0] rfl)
noncomputable def m_X0_refuse (v : SV) (u : SV) (x1 : Int32) (x2 : Int32) : Option (Int32 × SV) :=
  lett (up2 v 0 3 x1) (fun v1_ => lett (up2 v1_ 0 4 x2) (fun v2_ => some ((0 : Int32), v2_)))
set_option maxHeartbeats 4000000 in
set_option maxRecDepth 100000 in
theorem c_X0_refuse (l : Launch) (D : va_G) (q : Nat → ClassId) (sz : Nat) (a : Nat → Nat) (v : SV) (b : Nat → Nat) (u : SV) (x1 : Int32) (x2 : Int32) (res : Int32 × SV) (hm : m_X0_refuse v u x1 x2 = some res) : Met l yX0_refuse (mw yX0_refuse cX0_refuse 3 (some .boolean)) ({ frames := 0, cells := 0, slots := 0, locals := 0 } : Room) (pcW D q (wX0 q a v (b 99) ++ wX3 q b u) sz [.ref (a 99), .int x1, .int x2]) (va_Qi (fun r w => r = res.1 ∧ w = res.2) (bW D q (wX0 q a v (b 99) ++ wX3 q b u) sz (fun (uu : SV) => wX0 q a uu (b 99) ++ wX3 q b u)) (va_A (wX0 q a v (b 99) ++ wX3 q b u) sz)) 0 0 (va_A (wX0 q a v (b 99) ++ wX3 q b u) sz) := by
  refine Met.ofW (cc := cX0_refuse) (maxL := 3) (ret := (some .boolean)) (by decide) rfl ?_
  intro p e s m args below meth c s₁ B hml hv
  obtain ⟨rfl, hsz, hP0, hK, hD0⟩ := hv
  have hx := B.exec
  have hb := B.bytes
  have hr := B.returns
  have hW := mw_ws (atoms_spec (ws := mw yX0_refuse cX0_refuse 3 (some .boolean)) B.pre)
  have hown : s.vm.findClass RX0 = some m.cls := findClass_of_methodNamed B.named
  have hlocks := B.notSynchronized
  have X : Cx p s m [.ref (a 99), .int x1, .int x2].toArray c cX0_refuse 3 RX0 D q := ⟨hx, hb, hml, hown, hW, hK⟩
  subst hsz
  replace hD0 := hD0.self (sz := s.heap.size)
  have hS0 : va_S (va_A (wX0 q a v (b 99) ++ wX3 q b u) s.heap.size) s.heap s.heap [] := va_S.rf
  have hl0 := lv_entry ([.ref (a 99), .int x1, .int x2]) (n := 3) (Nat.le_of_ble_eq_true rfl)
  rw [lg_entry_eq]
  generalize (lg_sl ([.ref (a 99), .int x1, .int x2]) ++ List.replicate (3 - (lg_sl ([.ref (a 99), .int x1, .int x2])).length) Slot.unset).toArray = ls0 at hl0 ⊢
  have hl0 : lv_has ls0 3 [(0, .ref (a 99)), (1, .int x1), (2, .int x2)] := hl0
  unfold m_X0_refuse at hm
  refine lv_aload_n hx hb dX0_refuse_0 rfl (lv_at hl0 0 rfl) ?_
  refine lv_iload_n hx hb dX0_refuse_1 rfl (lv_at hl0 1 rfl) ?_
  refine va_put (D := D) (ci := 0) (v := .int x1) (ty := .int) (C := RX0) (T := TX0) (N := 13) hx hb hW iX0 tyX0 tyX0_ok nmX0 hown hK hP0 hD0 hS0 0 rfl rfl 3 (by decide) (hW _ k_179) (fun _ h => h) rfl (by decide +kernel) rfl rfl (Nat.le_of_ble_eq_true rfl) dX0_refuse_2 (fun H1 locs1 hP hD hS1 => ?_)
  obtain ⟨v1_, e1, hm⟩ := ltd hm
  have hP1 : va_P D cls (wX0 q a v1_ (b 99) ++ wX3 q b u) H1 := by rw [e1]; exact hP
  have hD1 : va_D (va_A (wX0 q a v (b 99) ++ wX3 q b u) s.heap.size) (wX0 q a v1_ (b 99) ++ wX3 q b u) := by rw [e1]; exact hD
  clear hP hD hP0 hD0 hS0
  refine lv_aload_n hx hb dX0_refuse_5 rfl (lv_at hl0 0 rfl) ?_
  refine lv_iload_n hx hb dX0_refuse_6 rfl (lv_at hl0 2 rfl) ?_
  refine va_put (D := D) (ci := 0) (v := .int x2) (ty := .int) (C := RX0) (T := TX0) (N := 13) hx hb hW iX0 tyX0 tyX0_ok nmX0 hown hK hP1 hD1 hS1 0 rfl rfl 4 (by decide) (hW _ k_181) (fun _ h => h) rfl (by decide +kernel) rfl rfl (Nat.le_of_ble_eq_true rfl) dX0_refuse_7 (fun H2 locs2 hP hD hS2 => ?_)
  obtain ⟨v2_, e2, hm⟩ := ltd hm
  have hP2 : va_P D cls (wX0 q a v2_ (b 99) ++ wX3 q b u) H2 := by rw [e2]; exact hP
  have hD2 : va_D (va_A (wX0 q a v (b 99) ++ wX3 q b u) s.heap.size) (wX0 q a v2_ (b 99) ++ wX3 q b u) := by rw [e2]; exact hD
  clear hP hD hP1 hD1 hS1
  refine lv_iconst (v := (0 : Int32)) hx hb dX0_refuse_10 (by decide) ?_
  exact eWz (Wf := fun (uu : SV) => wX0 q a uu (b 99) ++ wX3 q b u) (u := v2_) X hr hlocks rfl hP2 hD2 hS2 hm dX0_refuse_11
noncomputable def m_X0_readToken_K0 (u : SV) (z0 : SV) : Option (Int32 × SV) :=
  lett (up2 z0 0 6 (z0 0 7)) (fun v5_ => (if (v5_ 0 7) < (v5_ 0 1) then ck (inB (v5_ 0 7) 160) ((if (v5_ 50 (((v5_ 0 7)).toNatClampNeg)) = (59 : Int32) then lett (up2 v5_ 0 5 (3 : Int32)) (fun v7_ => lett (up2 v7_ 0 7 ((v7_ 0 7) + (1 : Int32))) (fun v8_ => some ((1 : Int32), v8_))) else (m_X0_runEnd v5_ u (97 : Int32) (122 : Int32)).bind (fun y101 => lett (up2 v5_ 0 7 y101) (fun v9_ => (if (v9_ 0 7) ≤ (v9_ 0 6) then (m_X0_runEnd v9_ u (48 : Int32) (57 : Int32)).bind (fun y131 => lett (up2 v9_ 0 7 y131) (fun v10_ => lett (up2 v10_ 0 5 (2 : Int32)) (fun v11_ => (if ((v11_ 0 7) - (v11_ 0 6)) < (1 : Int32) then (m_X0_refuse v11_ u (1 : Int32) (v11_ 0 6)).bind (fun y168 => ck (nzB y168.1) (some (y168.1, y168.2))) else (if ((v11_ 0 7) - (v11_ 0 6)) ≤ (2 : Int32) then ck (inB (v11_ 0 6) 160) (lett (up2 v11_ 0 8 ((v11_ 50 (((v11_ 0 6)).toNatClampNeg)) - (48 : Int32))) (fun v15_ => (if ((v11_ 0 7) - (v11_ 0 6)) = (2 : Int32) then ck (inB ((v15_ 0 6) + (1 : Int32)) 160) (lett (up2 v15_ 0 8 ((((10 : Int32) * (v15_ 0 8)) + (v15_ 50 ((((v15_ 0 6) + (1 : Int32))).toNatClampNeg))) - (48 : Int32))) (fun v17_ => some ((1 : Int32), v17_))) else some ((1 : Int32), v15_)))) else (m_X0_refuse v11_ u (1 : Int32) (v11_ 0 6)).bind (fun y168 => ck (nzB y168.1) (some (y168.1, y168.2)))))))) else lett (up2 v9_ 0 5 (1 : Int32)) (fun v19_ => some ((1 : Int32), v19_))))))) else lett (up2 v5_ 0 5 (0 : Int32)) (fun v20_ => some ((1 : Int32), v20_))))
noncomputable def m_X0_readToken_L0 (z0 : SV) : Option ((SV) ⊕ (SV)) :=
  (if (z0 0 1) ≤ (z0 0 7) then some (.inr z0) else ck (inB (z0 0 7) 160) ((if (z0 50 (((z0 0 7)).toNatClampNeg)) = (32 : Int32) then lett (up2 z0 0 7 ((z0 0 7) + (1 : Int32))) (fun v22_ => some (.inl v22_)) else some (.inr z0))))
noncomputable def m_X0_readToken (v : SV) (u : SV) : Option (Int32 × SV) :=
  (lpC (m_X0_readToken_L0) v).bind (m_X0_readToken_K0 u)
set_option maxHeartbeats 4000000 in
set_option maxRecDepth 100000 in
theorem c_X0_readToken (l : Launch) (D : va_G) (q : Nat → ClassId) (sz : Nat) (a : Nat → Nat) (v : SV) (b : Nat → Nat) (u : SV) (res : Int32 × SV) (hm : m_X0_readToken v u = some res) : Met l yX0_readToken (mw yX0_readToken cX0_readToken 2 (some .boolean)) ({ frames := 1, cells := 0, slots := 0, locals := 23 } : Room) (pcW D q (wX0 q a v (b 99) ++ wX3 q b u) sz [.ref (a 99)]) (va_Qi (fun r w => r = res.1 ∧ w = res.2) (bW D q (wX0 q a v (b 99) ++ wX3 q b u) sz (fun (uu : SV) => wX0 q a uu (b 99) ++ wX3 q b u)) (va_A (wX0 q a v (b 99) ++ wX3 q b u) sz)) 0 0 (va_A (wX0 q a v (b 99) ++ wX3 q b u) sz) := by
  refine Met.ofW (cc := cX0_readToken) (maxL := 2) (ret := (some .boolean)) (by decide) rfl ?_
  intro p e s m args below meth c s₁ B hml hv
  obtain ⟨rfl, hsz, hP0, hK, hD0⟩ := hv
  have hx := B.exec
  have hb := B.bytes
  have hr := B.returns
  have hW := mw_ws (atoms_spec (ws := mw yX0_readToken cX0_readToken 2 (some .boolean)) B.pre)
  have hown : s.vm.findClass RX0 = some m.cls := findClass_of_methodNamed B.named
  have hlocks := B.notSynchronized
  have X : Cx p s m [.ref (a 99)].toArray c cX0_readToken 2 RX0 D q := ⟨hx, hb, hml, hown, hW, hK⟩
  subst hsz
  replace hD0 := hD0.self (sz := s.heap.size)
  have hS0 : va_S (va_A (wX0 q a v (b 99) ++ wX3 q b u) s.heap.size) s.heap s.heap [] := va_S.rf
  have hl0 := lv_entry ([.ref (a 99)]) (n := 2) (Nat.le_of_ble_eq_true rfl)
  rw [lg_entry_eq]
  generalize (lg_sl ([.ref (a 99)]) ++ List.replicate (2 - (lg_sl ([.ref (a 99)])).length) Slot.unset).toArray = ls0 at hl0 ⊢
  have hl0 : lv_has ls0 2 [(0, .ref (a 99))] := hl0
  unfold m_X0_readToken at hm
  obtain ⟨r0, hr0, hm⟩ := bn hm
  obtain ⟨n0, hn0⟩ := lpC_ex hr0
  have hE0 : ∀ z0 : SV, m_X0_readToken_K0 u z0 = some res → ∀ (H : Heap) (locs : List Loc), va_P D cls (wX0 q a z0 (b 99) ++ wX3 q b u) H → va_D (va_A (wX0 q a v (b 99) ++ wX3 q b u) s.heap.size) (wX0 q a z0 (b 99) ++ wX3 q b u) → va_S (va_A (wX0 q a v (b 99) ++ wX3 q b u) s.heap.size) s.heap H locs → ∀ ls : Array Slot, lv_has ls 2 [(0, .ref (a 99))] → W p l e ((headSpec (mw yX0_readToken cX0_readToken 2 (some .boolean)) ({ frames := 1, cells := 0, slots := 0, locals := 23 } : Room)).room) s m [.ref (a 99)].toArray below meth c H locs 0 0 (MQ below (va_Qi (fun r w => r = res.1 ∧ w = res.2) (bW D q (wX0 q a v (b 99) ++ wX3 q b u) s.heap.size (fun (uu : SV) => wX0 q a uu (b 99) ++ wX3 q b u)) (va_A (wX0 q a v (b 99) ++ wX3 q b u) s.heap.size)) [.ref (a 99)].toArray s 0 0 (va_A (wX0 q a v (b 99) ++ wX3 q b u) s.heap.size)) (F0 m 38 ls []) := by
    intro z0 hm H4 locs4 hP4 hD4 hS4 ls3 hl3
    unfold m_X0_readToken_K0 at hm
    refine lv_aload_n hx hb dX0_readToken_38 rfl (lv_at hl3 0 rfl) ?_
    refine lv_aload_n hx hb dX0_readToken_39 rfl (lv_at hl3 0 rfl) ?_
    refine va_get (D := D) (ci := 0) (v := .int (z0 0 7)) (C := RX0) (T := TX0) (N := 13) hx hb hW iX0 hown hK hP4 0 rfl rfl 7 (by decide) (hW _ k_184) (fun _ h => h) rfl dX0_readToken_40 ?_
    refine va_put (D := D) (ci := 0) (v := .int (z0 0 7)) (ty := .int) (C := RX0) (T := TX0) (N := 13) hx hb hW iX0 tyX0 tyX0_ok nmX0 hown hK hP4 hD4 hS4 0 rfl rfl 6 (by decide) (hW _ k_183) (fun _ h => h) rfl (by decide +kernel) rfl rfl (Nat.le_of_ble_eq_true rfl) dX0_readToken_43 (fun H5 locs5 hP hD hS5 => ?_)
    obtain ⟨v5_, e5, hm⟩ := ltd hm
    have hP5 : va_P D cls (wX0 q a v5_ (b 99) ++ wX3 q b u) H5 := by rw [e5]; exact hP
    have hD5 : va_D (va_A (wX0 q a v (b 99) ++ wX3 q b u) s.heap.size) (wX0 q a v5_ (b 99) ++ wX3 q b u) := by rw [e5]; exact hD
    clear hP hD hP4 hD4 hS4
    refine lv_aload_n hx hb dX0_readToken_46 rfl (lv_at hl3 0 rfl) ?_
    refine va_get (D := D) (ci := 0) (v := .int (v5_ 0 7)) (C := RX0) (T := TX0) (N := 13) hx hb hW iX0 hown hK hP5 0 rfl rfl 7 (by decide) (hW _ k_184) (fun _ h => h) rfl dX0_readToken_47 ?_
    refine lv_aload_n hx hb dX0_readToken_50 rfl (lv_at hl3 0 rfl) ?_
    refine va_get (D := D) (ci := 0) (v := .int (v5_ 0 1)) (C := RX0) (T := TX0) (N := 13) hx hb hW iX0 hown hK hP5 0 rfl rfl 1 (by decide) (hW _ k_175) (fun _ h => h) rfl dX0_readToken_51 ?_
    refine lv_icmp_lt (tgt := 64) hx hb dX0_readToken_54 (by decide) (fun c54 => ?_) (fun c54 => ?_)
    · replace hm := tp hm c54
      refine lv_aload_n hx hb dX0_readToken_64 rfl (lv_at hl3 0 rfl) ?_
      refine va_get (D := D) (ci := 0) (v := .ref (a 0)) (C := RX0) (T := TX0) (N := 13) hx hb hW iX0 hown hK hP5 0 rfl rfl 0 (by decide) (hW _ k_174) (fun _ h => h) rfl dX0_readToken_65 ?_
      refine lv_aload_n hx hb dX0_readToken_68 rfl (lv_at hl3 0 rfl) ?_
      refine va_get (D := D) (ci := 0) (v := .int (v5_ 0 7)) (C := RX0) (T := TX0) (N := 13) hx hb hW iX0 hown hK hP5 0 rfl rfl 7 (by decide) (hW _ k_184) (fun _ h => h) rfl dX0_readToken_69 ?_
      obtain ⟨h6, hm⟩ := ckd hm
      refine va_bald (f := (v5_ 50)) hx hb hK hP5 1 1 rfl rfl (inB_vp h6) dX0_readToken_72 ?_
      refine lv_bipush (v := (59 : Int32)) hx hb dX0_readToken_73 (by decide) ?_
      refine lv_icmp_ne (tgt := 95) hx hb dX0_readToken_75 (by decide) (fun c75 => ?_) (fun c75 => ?_)
      · replace hm := tn hm c75
        refine lv_aload_n hx hb dX0_readToken_95 rfl (lv_at hl3 0 rfl) ?_
        refine lv_aload_n hx hb dX0_readToken_96 rfl (lv_at hl3 0 rfl) ?_
        refine lv_bipush (v := (97 : Int32)) hx hb dX0_readToken_97 (by decide) ?_
        refine lv_bipush (v := (122 : Int32)) hx hb dX0_readToken_99 (by decide) ?_
        obtain ⟨y101, hy101, hm⟩ := bn hm
        refine cVRi (As := [.int (97 : Int32), .int (122 : Int32)]) (rest := [.ref (a 99)]) X hP5 hl3.1 (c_X0_runEnd l D q a v5_ b u (97 : Int32) (122 : Int32) y101 hy101) [0, 1, 2, 3, 4, 5, 6, 7, 8, 9, 10, 11, 12, 13] rfl 0 rfl rfl rfl k_370 mX0_runEnd ⟨rfl, rfl⟩ ⟨Nat.le_of_ble_eq_true rfl, Nat.le_of_ble_eq_true rfl⟩ rfl rfl (Nat.le_of_ble_eq_true rfl) dX0_readToken_101 ⟨Nat.zero_le _, Nat.zero_le _⟩ ?_
        refine va_put (D := D) (ci := 0) (v := .int y101) (ty := .int) (C := RX0) (T := TX0) (N := 13) hx hb hW iX0 tyX0 tyX0_ok nmX0 hown hK hP5 hD5 hS5 0 rfl rfl 7 (by decide) (hW _ k_184) (fun _ h => h) rfl (by decide +kernel) rfl rfl (Nat.le_of_ble_eq_true rfl) dX0_readToken_104 (fun H9 locs9 hP hD hS9 => ?_)
        obtain ⟨v9_, e9, hm⟩ := ltd hm
        have hP9 : va_P D cls (wX0 q a v9_ (b 99) ++ wX3 q b u) H9 := by rw [e9]; exact hP
        have hD9 : va_D (va_A (wX0 q a v (b 99) ++ wX3 q b u) s.heap.size) (wX0 q a v9_ (b 99) ++ wX3 q b u) := by rw [e9]; exact hD
        clear hP hD hP5 hD5 hS5
        refine lv_aload_n hx hb dX0_readToken_107 rfl (lv_at hl3 0 rfl) ?_
        refine va_get (D := D) (ci := 0) (v := .int (v9_ 0 7)) (C := RX0) (T := TX0) (N := 13) hx hb hW iX0 hown hK hP9 0 rfl rfl 7 (by decide) (hW _ k_184) (fun _ h => h) rfl dX0_readToken_108 ?_
        refine lv_aload_n hx hb dX0_readToken_111 rfl (lv_at hl3 0 rfl) ?_
        refine va_get (D := D) (ci := 0) (v := .int (v9_ 0 6)) (C := RX0) (T := TX0) (N := 13) hx hb hW iX0 hown hK hP9 0 rfl rfl 6 (by decide) (hW _ k_183) (fun _ h => h) rfl dX0_readToken_112 ?_
        refine lv_icmp_le (tgt := 125) hx hb dX0_readToken_115 (by decide) (fun c115 => ?_) (fun c115 => ?_)
        · replace hm := tp hm c115
          refine lv_aload_n hx hb dX0_readToken_125 rfl (lv_at hl3 0 rfl) ?_
          refine lv_aload_n hx hb dX0_readToken_126 rfl (lv_at hl3 0 rfl) ?_
          refine lv_bipush (v := (48 : Int32)) hx hb dX0_readToken_127 (by decide) ?_
          refine lv_bipush (v := (57 : Int32)) hx hb dX0_readToken_129 (by decide) ?_
          obtain ⟨y131, hy131, hm⟩ := bn hm
          refine cVRi (As := [.int (48 : Int32), .int (57 : Int32)]) (rest := [.ref (a 99)]) X hP9 hl3.1 (c_X0_runEnd l D q a v9_ b u (48 : Int32) (57 : Int32) y131 hy131) [0, 1, 2, 3, 4, 5, 6, 7, 8, 9, 10, 11, 12, 13] rfl 0 rfl rfl rfl k_370 mX0_runEnd ⟨rfl, rfl⟩ ⟨Nat.le_of_ble_eq_true rfl, Nat.le_of_ble_eq_true rfl⟩ rfl rfl (Nat.le_of_ble_eq_true rfl) dX0_readToken_131 ⟨Nat.zero_le _, Nat.zero_le _⟩ ?_
          refine va_put (D := D) (ci := 0) (v := .int y131) (ty := .int) (C := RX0) (T := TX0) (N := 13) hx hb hW iX0 tyX0 tyX0_ok nmX0 hown hK hP9 hD9 hS9 0 rfl rfl 7 (by decide) (hW _ k_184) (fun _ h => h) rfl (by decide +kernel) rfl rfl (Nat.le_of_ble_eq_true rfl) dX0_readToken_134 (fun H10 locs10 hP hD hS10 => ?_)
          obtain ⟨v10_, e10, hm⟩ := ltd hm
          have hP10 : va_P D cls (wX0 q a v10_ (b 99) ++ wX3 q b u) H10 := by rw [e10]; exact hP
          have hD10 : va_D (va_A (wX0 q a v (b 99) ++ wX3 q b u) s.heap.size) (wX0 q a v10_ (b 99) ++ wX3 q b u) := by rw [e10]; exact hD
          clear hP hD hP9 hD9 hS9
          refine lv_aload_n hx hb dX0_readToken_137 rfl (lv_at hl3 0 rfl) ?_
          refine lv_iconst (v := (2 : Int32)) hx hb dX0_readToken_138 (by decide) ?_
          refine va_put (D := D) (ci := 0) (v := .int (2 : Int32)) (ty := .int) (C := RX0) (T := TX0) (N := 13) hx hb hW iX0 tyX0 tyX0_ok nmX0 hown hK hP10 hD10 hS10 0 rfl rfl 5 (by decide) (hW _ k_182) (fun _ h => h) rfl (by decide +kernel) rfl rfl (Nat.le_of_ble_eq_true rfl) dX0_readToken_139 (fun H11 locs11 hP hD hS11 => ?_)
          obtain ⟨v11_, e11, hm⟩ := ltd hm
          have hP11 : va_P D cls (wX0 q a v11_ (b 99) ++ wX3 q b u) H11 := by rw [e11]; exact hP
          have hD11 : va_D (va_A (wX0 q a v (b 99) ++ wX3 q b u) s.heap.size) (wX0 q a v11_ (b 99) ++ wX3 q b u) := by rw [e11]; exact hD
          clear hP hD hP10 hD10 hS10
          refine lv_aload_n hx hb dX0_readToken_142 rfl (lv_at hl3 0 rfl) ?_
          refine va_get (D := D) (ci := 0) (v := .int (v11_ 0 7)) (C := RX0) (T := TX0) (N := 13) hx hb hW iX0 hown hK hP11 0 rfl rfl 7 (by decide) (hW _ k_184) (fun _ h => h) rfl dX0_readToken_143 ?_
          refine lv_aload_n hx hb dX0_readToken_146 rfl (lv_at hl3 0 rfl) ?_
          refine va_get (D := D) (ci := 0) (v := .int (v11_ 0 6)) (C := RX0) (T := TX0) (N := 13) hx hb hW iX0 hown hK hP11 0 rfl rfl 6 (by decide) (hW _ k_183) (fun _ h => h) rfl dX0_readToken_147 ?_
          refine lv_isub hx hb dX0_readToken_150 ?_
          refine lv_istore_n (lv' := [(1, .int ((v11_ 0 7) - (v11_ 0 6))), (0, .ref (a 99))]) hx hb dX0_readToken_151 rfl hl3 (by decide) rfl (fun ls12 hl12 => ?_)
          clear hl3
          refine lv_iload_n hx hb dX0_readToken_152 rfl (lv_at hl12 0 rfl) ?_
          refine lv_iconst (v := (1 : Int32)) hx hb dX0_readToken_153 (by decide) ?_
          refine lv_icmp_lt (tgt := 162) hx hb dX0_readToken_154 (by decide) (fun c154 => ?_) (fun c154 => ?_)
          · replace hm := tp hm c154
            refine lv_aload_n hx hb dX0_readToken_162 rfl (lv_at hl12 1 rfl) ?_
            refine lv_iconst (v := (1 : Int32)) hx hb dX0_readToken_163 (by decide) ?_
            refine lv_aload_n hx hb dX0_readToken_164 rfl (lv_at hl12 1 rfl) ?_
            refine va_get (D := D) (ci := 0) (v := .int (v11_ 0 6)) (C := RX0) (T := TX0) (N := 13) hx hb hW iX0 hown hK hP11 0 rfl rfl 6 (by decide) (hW _ k_183) (fun _ h => h) rfl dX0_readToken_165 ?_
            obtain ⟨y168, hy168, hm⟩ := bn hm
            refine cVWi (As := [.int (1 : Int32), .int (v11_ 0 6)]) (rest := []) (Wn := fun (uu : SV) => wX0 q a uu (b 99) ++ wX3 q b u) X hP11 hD11 hS11 (fun _ h => Or.inr h) hl12.1 (c_X0_refuse l D q H11.size a v11_ b u (1 : Int32) (v11_ 0 6) y168 hy168) [0, 1, 2, 3, 4, 5, 6, 7, 8, 9, 10, 11, 12, 13] [] [0, 1, 2, 3, 4, 5, 6, 7, 8, 9, 10, 11, 12, 13] rfl (Wr := []) rfl (by decide) (by decide) (by decide) (by decide) (fun _ => rfl) 0 rfl rfl rfl k_374 mX0_refuse ⟨rfl, rfl⟩ ⟨Nat.le_of_ble_eq_true rfl, Nat.le_of_ble_eq_true rfl⟩ rfl rfl (Nat.le_of_ble_eq_true rfl) dX0_readToken_168 ⟨Nat.zero_le _, Nat.zero_le _⟩ (fun H13 locs13 hP hD hS13 => ?_)
            have hP13 : va_P D cls (wX0 q a y168.2 (b 99) ++ wX3 q b u) H13 := hP
            have hD13 : va_D (va_A (wX0 q a v (b 99) ++ wX3 q b u) s.heap.size) (wX0 q a y168.2 (b 99) ++ wX3 q b u) := hD
            clear hP hD hP11 hD11 hS11
            obtain ⟨hz0, hm⟩ := ckd hm
            have hnz := nz_nar hz0
            exact eWz (Wf := fun (uu : SV) => wX0 q a uu (b 99) ++ wX3 q b u) (u := y168.2) X hr hlocks hnz hP13 hD13 hS13 hm dX0_readToken_171
          · replace hm := tn hm c154
            refine lv_iload_n hx hb dX0_readToken_157 rfl (lv_at hl12 0 rfl) ?_
            refine lv_iconst (v := (2 : Int32)) hx hb dX0_readToken_158 (by decide) ?_
            refine lv_icmp_le (tgt := 172) hx hb dX0_readToken_159 (by decide) (fun c159 => ?_) (fun c159 => ?_)
            · replace hm := tp hm c159
              refine lv_aload_n hx hb dX0_readToken_172 rfl (lv_at hl12 1 rfl) ?_
              refine lv_aload_n hx hb dX0_readToken_173 rfl (lv_at hl12 1 rfl) ?_
              refine va_get (D := D) (ci := 0) (v := .ref (a 0)) (C := RX0) (T := TX0) (N := 13) hx hb hW iX0 hown hK hP11 0 rfl rfl 0 (by decide) (hW _ k_174) (fun _ h => h) rfl dX0_readToken_174 ?_
              refine lv_aload_n hx hb dX0_readToken_177 rfl (lv_at hl12 1 rfl) ?_
              refine va_get (D := D) (ci := 0) (v := .int (v11_ 0 6)) (C := RX0) (T := TX0) (N := 13) hx hb hW iX0 hown hK hP11 0 rfl rfl 6 (by decide) (hW _ k_183) (fun _ h => h) rfl dX0_readToken_178 ?_
              obtain ⟨h14, hm⟩ := ckd hm
              refine va_bald (f := (v11_ 50)) hx hb hK hP11 1 1 rfl rfl (inB_vp h14) dX0_readToken_181 ?_
              refine lv_bipush (v := (48 : Int32)) hx hb dX0_readToken_182 (by decide) ?_
              refine lv_isub hx hb dX0_readToken_184 ?_
              refine va_put (D := D) (ci := 0) (v := .int ((v11_ 50 (((v11_ 0 6)).toNatClampNeg)) - (48 : Int32))) (ty := .int) (C := RX0) (T := TX0) (N := 13) hx hb hW iX0 tyX0 tyX0_ok nmX0 hown hK hP11 hD11 hS11 0 rfl rfl 8 (by decide) (hW _ k_185) (fun _ h => h) rfl (by decide +kernel) rfl rfl (Nat.le_of_ble_eq_true rfl) dX0_readToken_185 (fun H15 locs15 hP hD hS15 => ?_)
              obtain ⟨v15_, e15, hm⟩ := ltd hm
              have hP15 : va_P D cls (wX0 q a v15_ (b 99) ++ wX3 q b u) H15 := by rw [e15]; exact hP
              have hD15 : va_D (va_A (wX0 q a v (b 99) ++ wX3 q b u) s.heap.size) (wX0 q a v15_ (b 99) ++ wX3 q b u) := by rw [e15]; exact hD
              clear hP hD hP11 hD11 hS11
              refine lv_iload_n hx hb dX0_readToken_188 rfl (lv_at hl12 0 rfl) ?_
              refine lv_iconst (v := (2 : Int32)) hx hb dX0_readToken_189 (by decide) ?_
              refine lv_icmp_ne (tgt := 219) hx hb dX0_readToken_190 (by decide) (fun c190 => ?_) (fun c190 => ?_)
              · replace hm := tn hm c190
                refine lv_iconst (v := (1 : Int32)) hx hb dX0_readToken_219 (by decide) ?_
                exact eWz (Wf := fun (uu : SV) => wX0 q a uu (b 99) ++ wX3 q b u) (u := v15_) X hr hlocks rfl hP15 hD15 hS15 hm dX0_readToken_220
              · replace hm := tp hm c190
                refine lv_aload_n hx hb dX0_readToken_193 rfl (lv_at hl12 1 rfl) ?_
                refine lv_bipush (v := (10 : Int32)) hx hb dX0_readToken_194 (by decide) ?_
                refine lv_aload_n hx hb dX0_readToken_196 rfl (lv_at hl12 1 rfl) ?_
                refine va_get (D := D) (ci := 0) (v := .int (v15_ 0 8)) (C := RX0) (T := TX0) (N := 13) hx hb hW iX0 hown hK hP15 0 rfl rfl 8 (by decide) (hW _ k_185) (fun _ h => h) rfl dX0_readToken_197 ?_
                refine lv_imul hx hb dX0_readToken_200 ?_
                refine lv_aload_n hx hb dX0_readToken_201 rfl (lv_at hl12 1 rfl) ?_
                refine va_get (D := D) (ci := 0) (v := .ref (a 0)) (C := RX0) (T := TX0) (N := 13) hx hb hW iX0 hown hK hP15 0 rfl rfl 0 (by decide) (hW _ k_174) (fun _ h => h) rfl dX0_readToken_202 ?_
                refine lv_aload_n hx hb dX0_readToken_205 rfl (lv_at hl12 1 rfl) ?_
                refine va_get (D := D) (ci := 0) (v := .int (v15_ 0 6)) (C := RX0) (T := TX0) (N := 13) hx hb hW iX0 hown hK hP15 0 rfl rfl 6 (by decide) (hW _ k_183) (fun _ h => h) rfl dX0_readToken_206 ?_
                refine lv_iconst (v := (1 : Int32)) hx hb dX0_readToken_209 (by decide) ?_
                refine lv_iadd hx hb dX0_readToken_210 ?_
                obtain ⟨h16, hm⟩ := ckd hm
                refine va_bald (f := (v15_ 50)) hx hb hK hP15 1 1 rfl rfl (inB_vp h16) dX0_readToken_211 ?_
                refine lv_iadd hx hb dX0_readToken_212 ?_
                refine lv_bipush (v := (48 : Int32)) hx hb dX0_readToken_213 (by decide) ?_
                refine lv_isub hx hb dX0_readToken_215 ?_
                refine va_put (D := D) (ci := 0) (v := .int ((((10 : Int32) * (v15_ 0 8)) + (v15_ 50 ((((v15_ 0 6) + (1 : Int32))).toNatClampNeg))) - (48 : Int32))) (ty := .int) (C := RX0) (T := TX0) (N := 13) hx hb hW iX0 tyX0 tyX0_ok nmX0 hown hK hP15 hD15 hS15 0 rfl rfl 8 (by decide) (hW _ k_185) (fun _ h => h) rfl (by decide +kernel) rfl rfl (Nat.le_of_ble_eq_true rfl) dX0_readToken_216 (fun H17 locs17 hP hD hS17 => ?_)
                obtain ⟨v17_, e17, hm⟩ := ltd hm
                have hP17 : va_P D cls (wX0 q a v17_ (b 99) ++ wX3 q b u) H17 := by rw [e17]; exact hP
                have hD17 : va_D (va_A (wX0 q a v (b 99) ++ wX3 q b u) s.heap.size) (wX0 q a v17_ (b 99) ++ wX3 q b u) := by rw [e17]; exact hD
                clear hP hD hP15 hD15 hS15
                refine lv_iconst (v := (1 : Int32)) hx hb dX0_readToken_219 (by decide) ?_
                exact eWz (Wf := fun (uu : SV) => wX0 q a uu (b 99) ++ wX3 q b u) (u := v17_) X hr hlocks rfl hP17 hD17 hS17 hm dX0_readToken_220
            · replace hm := tn hm c159
              refine lv_aload_n hx hb dX0_readToken_162 rfl (lv_at hl12 1 rfl) ?_
              refine lv_iconst (v := (1 : Int32)) hx hb dX0_readToken_163 (by decide) ?_
              refine lv_aload_n hx hb dX0_readToken_164 rfl (lv_at hl12 1 rfl) ?_
              refine va_get (D := D) (ci := 0) (v := .int (v11_ 0 6)) (C := RX0) (T := TX0) (N := 13) hx hb hW iX0 hown hK hP11 0 rfl rfl 6 (by decide) (hW _ k_183) (fun _ h => h) rfl dX0_readToken_165 ?_
              obtain ⟨y168, hy168, hm⟩ := bn hm
              refine cVWi (As := [.int (1 : Int32), .int (v11_ 0 6)]) (rest := []) (Wn := fun (uu : SV) => wX0 q a uu (b 99) ++ wX3 q b u) X hP11 hD11 hS11 (fun _ h => Or.inr h) hl12.1 (c_X0_refuse l D q H11.size a v11_ b u (1 : Int32) (v11_ 0 6) y168 hy168) [0, 1, 2, 3, 4, 5, 6, 7, 8, 9, 10, 11, 12, 13] [] [0, 1, 2, 3, 4, 5, 6, 7, 8, 9, 10, 11, 12, 13] rfl (Wr := []) rfl (by decide) (by decide) (by decide) (by decide) (fun _ => rfl) 0 rfl rfl rfl k_374 mX0_refuse ⟨rfl, rfl⟩ ⟨Nat.le_of_ble_eq_true rfl, Nat.le_of_ble_eq_true rfl⟩ rfl rfl (Nat.le_of_ble_eq_true rfl) dX0_readToken_168 ⟨Nat.zero_le _, Nat.zero_le _⟩ (fun H18 locs18 hP hD hS18 => ?_)
              have hP18 : va_P D cls (wX0 q a y168.2 (b 99) ++ wX3 q b u) H18 := hP
              have hD18 : va_D (va_A (wX0 q a v (b 99) ++ wX3 q b u) s.heap.size) (wX0 q a y168.2 (b 99) ++ wX3 q b u) := hD
              clear hP hD hP11 hD11 hS11
              obtain ⟨hz0, hm⟩ := ckd hm
              have hnz := nz_nar hz0
              exact eWz (Wf := fun (uu : SV) => wX0 q a uu (b 99) ++ wX3 q b u) (u := y168.2) X hr hlocks hnz hP18 hD18 hS18 hm dX0_readToken_171
        · replace hm := tn hm c115
          refine lv_aload_n hx hb dX0_readToken_118 rfl (lv_at hl3 0 rfl) ?_
          refine lv_iconst (v := (1 : Int32)) hx hb dX0_readToken_119 (by decide) ?_
          refine va_put (D := D) (ci := 0) (v := .int (1 : Int32)) (ty := .int) (C := RX0) (T := TX0) (N := 13) hx hb hW iX0 tyX0 tyX0_ok nmX0 hown hK hP9 hD9 hS9 0 rfl rfl 5 (by decide) (hW _ k_182) (fun _ h => h) rfl (by decide +kernel) rfl rfl (Nat.le_of_ble_eq_true rfl) dX0_readToken_120 (fun H19 locs19 hP hD hS19 => ?_)
          obtain ⟨v19_, e19, hm⟩ := ltd hm
          have hP19 : va_P D cls (wX0 q a v19_ (b 99) ++ wX3 q b u) H19 := by rw [e19]; exact hP
          have hD19 : va_D (va_A (wX0 q a v (b 99) ++ wX3 q b u) s.heap.size) (wX0 q a v19_ (b 99) ++ wX3 q b u) := by rw [e19]; exact hD
          clear hP hD hP9 hD9 hS9
          refine lv_iconst (v := (1 : Int32)) hx hb dX0_readToken_123 (by decide) ?_
          exact eWz (Wf := fun (uu : SV) => wX0 q a uu (b 99) ++ wX3 q b u) (u := v19_) X hr hlocks rfl hP19 hD19 hS19 hm dX0_readToken_124
      · replace hm := tp hm c75
        refine lv_aload_n hx hb dX0_readToken_78 rfl (lv_at hl3 0 rfl) ?_
        refine lv_iconst (v := (3 : Int32)) hx hb dX0_readToken_79 (by decide) ?_
        refine va_put (D := D) (ci := 0) (v := .int (3 : Int32)) (ty := .int) (C := RX0) (T := TX0) (N := 13) hx hb hW iX0 tyX0 tyX0_ok nmX0 hown hK hP5 hD5 hS5 0 rfl rfl 5 (by decide) (hW _ k_182) (fun _ h => h) rfl (by decide +kernel) rfl rfl (Nat.le_of_ble_eq_true rfl) dX0_readToken_80 (fun H7 locs7 hP hD hS7 => ?_)
        obtain ⟨v7_, e7, hm⟩ := ltd hm
        have hP7 : va_P D cls (wX0 q a v7_ (b 99) ++ wX3 q b u) H7 := by rw [e7]; exact hP
        have hD7 : va_D (va_A (wX0 q a v (b 99) ++ wX3 q b u) s.heap.size) (wX0 q a v7_ (b 99) ++ wX3 q b u) := by rw [e7]; exact hD
        clear hP hD hP5 hD5 hS5
        refine lv_aload_n hx hb dX0_readToken_83 rfl (lv_at hl3 0 rfl) ?_
        refine lv_dup hx hb dX0_readToken_84 rfl ?_
        refine va_get (D := D) (ci := 0) (v := .int (v7_ 0 7)) (C := RX0) (T := TX0) (N := 13) hx hb hW iX0 hown hK hP7 0 rfl rfl 7 (by decide) (hW _ k_184) (fun _ h => h) rfl dX0_readToken_85 ?_
        refine lv_iconst (v := (1 : Int32)) hx hb dX0_readToken_88 (by decide) ?_
        refine lv_iadd hx hb dX0_readToken_89 ?_
        refine va_put (D := D) (ci := 0) (v := .int ((v7_ 0 7) + (1 : Int32))) (ty := .int) (C := RX0) (T := TX0) (N := 13) hx hb hW iX0 tyX0 tyX0_ok nmX0 hown hK hP7 hD7 hS7 0 rfl rfl 7 (by decide) (hW _ k_184) (fun _ h => h) rfl (by decide +kernel) rfl rfl (Nat.le_of_ble_eq_true rfl) dX0_readToken_90 (fun H8 locs8 hP hD hS8 => ?_)
        obtain ⟨v8_, e8, hm⟩ := ltd hm
        have hP8 : va_P D cls (wX0 q a v8_ (b 99) ++ wX3 q b u) H8 := by rw [e8]; exact hP
        have hD8 : va_D (va_A (wX0 q a v (b 99) ++ wX3 q b u) s.heap.size) (wX0 q a v8_ (b 99) ++ wX3 q b u) := by rw [e8]; exact hD
        clear hP hD hP7 hD7 hS7
        refine lv_iconst (v := (1 : Int32)) hx hb dX0_readToken_93 (by decide) ?_
        exact eWz (Wf := fun (uu : SV) => wX0 q a uu (b 99) ++ wX3 q b u) (u := v8_) X hr hlocks rfl hP8 hD8 hS8 hm dX0_readToken_94
    · replace hm := tn hm c54
      refine lv_aload_n hx hb dX0_readToken_57 rfl (lv_at hl3 0 rfl) ?_
      refine lv_iconst (v := (0 : Int32)) hx hb dX0_readToken_58 (by decide) ?_
      refine va_put (D := D) (ci := 0) (v := .int (0 : Int32)) (ty := .int) (C := RX0) (T := TX0) (N := 13) hx hb hW iX0 tyX0 tyX0_ok nmX0 hown hK hP5 hD5 hS5 0 rfl rfl 5 (by decide) (hW _ k_182) (fun _ h => h) rfl (by decide +kernel) rfl rfl (Nat.le_of_ble_eq_true rfl) dX0_readToken_59 (fun H20 locs20 hP hD hS20 => ?_)
      obtain ⟨v20_, e20, hm⟩ := ltd hm
      have hP20 : va_P D cls (wX0 q a v20_ (b 99) ++ wX3 q b u) H20 := by rw [e20]; exact hP
      have hD20 : va_D (va_A (wX0 q a v (b 99) ++ wX3 q b u) s.heap.size) (wX0 q a v20_ (b 99) ++ wX3 q b u) := by rw [e20]; exact hD
      clear hP hD hP5 hD5 hS5
      refine lv_iconst (v := (1 : Int32)) hx hb dX0_readToken_62 (by decide) ?_
      exact eWz (Wf := fun (uu : SV) => wX0 q a uu (b 99) ++ wX3 q b u) (u := v20_) X hr hlocks rfl hP20 hD20 hS20 hm dX0_readToken_63
  have hL0 : ∀ (n : Nat) (z0 : SV) (ρ0 : SV), lpO (m_X0_readToken_L0) n z0 = some ρ0 → (m_X0_readToken_K0 u) ρ0 = some res → ∀ (H : Heap) (locs : List Loc), va_P D cls (wX0 q a z0 (b 99) ++ wX3 q b u) H → va_D (va_A (wX0 q a v (b 99) ++ wX3 q b u) s.heap.size) (wX0 q a z0 (b 99) ++ wX3 q b u) → va_S (va_A (wX0 q a v (b 99) ++ wX3 q b u) s.heap.size) s.heap H locs → ∀ ls : Array Slot, lv_has ls 2 [(0, .ref (a 99))] → W p l e ((headSpec (mw yX0_readToken cX0_readToken 2 (some .boolean)) ({ frames := 1, cells := 0, slots := 0, locals := 23 } : Room)).room) s m [.ref (a 99)].toArray below meth c H locs 0 0 (MQ below (va_Qi (fun r w => r = res.1 ∧ w = res.2) (bW D q (wX0 q a v (b 99) ++ wX3 q b u) s.heap.size (fun (uu : SV) => wX0 q a uu (b 99) ++ wX3 q b u)) (va_A (wX0 q a v (b 99) ++ wX3 q b u) s.heap.size)) [.ref (a 99)].toArray s 0 0 (va_A (wX0 q a v (b 99) ++ wX3 q b u) s.heap.size)) (F0 m 0 ls []) := by
    intro n
    induction n with
    | zero => intro _ _ h; cases h
    | succ n ih0 =>
      intro z0 ρ0 hz0 hK0 H2 locs2 hP2 hD2 hS2 ls1 hl1
      obtain ⟨t0, hm, hz0⟩ := bn hz0
      unfold m_X0_readToken_L0 at hm
      refine lv_aload_n hx hb dX0_readToken_0 rfl (lv_at hl1 0 rfl) ?_
      refine va_get (D := D) (ci := 0) (v := .int (z0 0 7)) (C := RX0) (T := TX0) (N := 13) hx hb hW iX0 hown hK hP2 0 rfl rfl 7 (by decide) (hW _ k_184) (fun _ h => h) rfl dX0_readToken_1 ?_
      refine lv_aload_n hx hb dX0_readToken_4 rfl (lv_at hl1 0 rfl) ?_
      refine va_get (D := D) (ci := 0) (v := .int (z0 0 1)) (C := RX0) (T := TX0) (N := 13) hx hb hW iX0 hown hK hP2 0 rfl rfl 1 (by decide) (hW _ k_175) (fun _ h => h) rfl dX0_readToken_5 ?_
      refine lv_icmp_ge (tgt := 38) hx hb dX0_readToken_8 (by decide) (fun c8 => ?_) (fun c8 => ?_)
      · replace hm := tp hm c8
        cases hm
        cases hz0
        exact hE0 z0 hK0 _ _ hP2 hD2 hS2 _ (lv_sub hl1 [0] rfl)
      · replace hm := tn hm c8
        refine lv_aload_n hx hb dX0_readToken_11 rfl (lv_at hl1 0 rfl) ?_
        refine va_get (D := D) (ci := 0) (v := .ref (a 0)) (C := RX0) (T := TX0) (N := 13) hx hb hW iX0 hown hK hP2 0 rfl rfl 0 (by decide) (hW _ k_174) (fun _ h => h) rfl dX0_readToken_12 ?_
        refine lv_aload_n hx hb dX0_readToken_15 rfl (lv_at hl1 0 rfl) ?_
        refine va_get (D := D) (ci := 0) (v := .int (z0 0 7)) (C := RX0) (T := TX0) (N := 13) hx hb hW iX0 hown hK hP2 0 rfl rfl 7 (by decide) (hW _ k_184) (fun _ h => h) rfl dX0_readToken_16 ?_
        obtain ⟨h21, hm⟩ := ckd hm
        refine va_bald (f := (z0 50)) hx hb hK hP2 1 1 rfl rfl (inB_vp h21) dX0_readToken_19 ?_
        refine lv_bipush (v := (32 : Int32)) hx hb dX0_readToken_20 (by decide) ?_
        refine lv_icmp_ne (tgt := 38) hx hb dX0_readToken_22 (by decide) (fun c22 => ?_) (fun c22 => ?_)
        · replace hm := tn hm c22
          cases hm
          cases hz0
          exact hE0 z0 hK0 _ _ hP2 hD2 hS2 _ (lv_sub hl1 [0] rfl)
        · replace hm := tp hm c22
          refine lv_aload_n hx hb dX0_readToken_25 rfl (lv_at hl1 0 rfl) ?_
          refine lv_dup hx hb dX0_readToken_26 rfl ?_
          refine va_get (D := D) (ci := 0) (v := .int (z0 0 7)) (C := RX0) (T := TX0) (N := 13) hx hb hW iX0 hown hK hP2 0 rfl rfl 7 (by decide) (hW _ k_184) (fun _ h => h) rfl dX0_readToken_27 ?_
          refine lv_iconst (v := (1 : Int32)) hx hb dX0_readToken_30 (by decide) ?_
          refine lv_iadd hx hb dX0_readToken_31 ?_
          refine va_put (D := D) (ci := 0) (v := .int ((z0 0 7) + (1 : Int32))) (ty := .int) (C := RX0) (T := TX0) (N := 13) hx hb hW iX0 tyX0 tyX0_ok nmX0 hown hK hP2 hD2 hS2 0 rfl rfl 7 (by decide) (hW _ k_184) (fun _ h => h) rfl (by decide +kernel) rfl rfl (Nat.le_of_ble_eq_true rfl) dX0_readToken_32 (fun H22 locs22 hP hD hS22 => ?_)
          obtain ⟨v22_, e22, hm⟩ := ltd hm
          have hP22 : va_P D cls (wX0 q a v22_ (b 99) ++ wX3 q b u) H22 := by rw [e22]; exact hP
          have hD22 : va_D (va_A (wX0 q a v (b 99) ++ wX3 q b u) s.heap.size) (wX0 q a v22_ (b 99) ++ wX3 q b u) := by rw [e22]; exact hD
          clear hP hD hP2 hD2 hS2
          refine lv_goto (tgt := 0) hx hb dX0_readToken_35 (by decide) ?_
          cases hm
          exact ih0 v22_ ρ0 hz0 hK0 _ _ hP22 hD22 hS22 _ (lv_sub hl1 [0] rfl)
  exact hL0 n0 v r0 hn0 hm _ _ hP0 hD0 hS0 _ (lv_sub hl0 [0] rfl)
noncomputable def m_X0_isNumber (v : SV) (u : SV) (x1 : Int32) (x2 : Int32) : Option (Int32 × SV) :=
  (if (v 0 5) = (2 : Int32) then (if (v 0 8) < x1 then (m_X0_refuse v u (3 : Int32) (v 0 6)).bind (fun y40 => (if y40.1 = 0 then some ((0 : Int32), y40.2) else some ((1 : Int32), y40.2))) else (if (v 0 8) ≤ x2 then some ((1 : Int32), v) else (m_X0_refuse v u (3 : Int32) (v 0 6)).bind (fun y40 => (if y40.1 = 0 then some ((0 : Int32), y40.2) else some ((1 : Int32), y40.2))))) else (m_X0_refuse v u (2 : Int32) (v 0 6)).bind (fun y14 => ck (nzB y14.1) (some (y14.1, y14.2))))
set_option maxHeartbeats 4000000 in
set_option maxRecDepth 100000 in
theorem c_X0_isNumber (l : Launch) (D : va_G) (q : Nat → ClassId) (sz : Nat) (a : Nat → Nat) (v : SV) (b : Nat → Nat) (u : SV) (x1 : Int32) (x2 : Int32) (res : Int32 × SV) (hm : m_X0_isNumber v u x1 x2 = some res) : Met l yX0_isNumber (mw yX0_isNumber cX0_isNumber 3 (some .boolean)) ({ frames := 1, cells := 0, slots := 0, locals := 22 } : Room) (pcW D q (wX0 q a v (b 99) ++ wX3 q b u) sz [.ref (a 99), .int x1, .int x2]) (va_Qi (fun r w => r = res.1 ∧ w = res.2) (bW D q (wX0 q a v (b 99) ++ wX3 q b u) sz (fun (uu : SV) => wX0 q a uu (b 99) ++ wX3 q b u)) (va_A (wX0 q a v (b 99) ++ wX3 q b u) sz)) 0 0 (va_A (wX0 q a v (b 99) ++ wX3 q b u) sz) := by
  refine Met.ofW (cc := cX0_isNumber) (maxL := 3) (ret := (some .boolean)) (by decide) rfl ?_
  intro p e s m args below meth c s₁ B hml hv
  obtain ⟨rfl, hsz, hP0, hK, hD0⟩ := hv
  have hx := B.exec
  have hb := B.bytes
  have hr := B.returns
  have hW := mw_ws (atoms_spec (ws := mw yX0_isNumber cX0_isNumber 3 (some .boolean)) B.pre)
  have hown : s.vm.findClass RX0 = some m.cls := findClass_of_methodNamed B.named
  have hlocks := B.notSynchronized
  have X : Cx p s m [.ref (a 99), .int x1, .int x2].toArray c cX0_isNumber 3 RX0 D q := ⟨hx, hb, hml, hown, hW, hK⟩
  subst hsz
  replace hD0 := hD0.self (sz := s.heap.size)
  have hS0 : va_S (va_A (wX0 q a v (b 99) ++ wX3 q b u) s.heap.size) s.heap s.heap [] := va_S.rf
  have hl0 := lv_entry ([.ref (a 99), .int x1, .int x2]) (n := 3) (Nat.le_of_ble_eq_true rfl)
  rw [lg_entry_eq]
  generalize (lg_sl ([.ref (a 99), .int x1, .int x2]) ++ List.replicate (3 - (lg_sl ([.ref (a 99), .int x1, .int x2])).length) Slot.unset).toArray = ls0 at hl0 ⊢
  have hl0 : lv_has ls0 3 [(0, .ref (a 99)), (1, .int x1), (2, .int x2)] := hl0
  unfold m_X0_isNumber at hm
  refine lv_aload_n hx hb dX0_isNumber_0 rfl (lv_at hl0 0 rfl) ?_
  refine va_get (D := D) (ci := 0) (v := .int (v 0 5)) (C := RX0) (T := TX0) (N := 13) hx hb hW iX0 hown hK hP0 0 rfl rfl 5 (by decide) (hW _ k_182) (fun _ h => h) rfl dX0_isNumber_1 ?_
  refine lv_iconst (v := (2 : Int32)) hx hb dX0_isNumber_4 (by decide) ?_
  refine lv_icmp_eq (tgt := 18) hx hb dX0_isNumber_5 (by decide) (fun c5 => ?_) (fun c5 => ?_)
  · replace hm := tp hm c5
    refine lv_aload_n hx hb dX0_isNumber_18 rfl (lv_at hl0 0 rfl) ?_
    refine va_get (D := D) (ci := 0) (v := .int (v 0 8)) (C := RX0) (T := TX0) (N := 13) hx hb hW iX0 hown hK hP0 0 rfl rfl 8 (by decide) (hW _ k_185) (fun _ h => h) rfl dX0_isNumber_19 ?_
    refine lv_iload_n hx hb dX0_isNumber_22 rfl (lv_at hl0 1 rfl) ?_
    refine lv_icmp_lt (tgt := 34) hx hb dX0_isNumber_23 (by decide) (fun c23 => ?_) (fun c23 => ?_)
    · replace hm := tp hm c23
      refine lv_aload_n hx hb dX0_isNumber_34 rfl (lv_at hl0 0 rfl) ?_
      refine lv_iconst (v := (3 : Int32)) hx hb dX0_isNumber_35 (by decide) ?_
      refine lv_aload_n hx hb dX0_isNumber_36 rfl (lv_at hl0 0 rfl) ?_
      refine va_get (D := D) (ci := 0) (v := .int (v 0 6)) (C := RX0) (T := TX0) (N := 13) hx hb hW iX0 hown hK hP0 0 rfl rfl 6 (by decide) (hW _ k_183) (fun _ h => h) rfl dX0_isNumber_37 ?_
      obtain ⟨y40, hy40, hm⟩ := bn hm
      refine cVWi (As := [.int (3 : Int32), .int (v 0 6)]) (rest := []) (Wn := fun (uu : SV) => wX0 q a uu (b 99) ++ wX3 q b u) X hP0 hD0 hS0 (fun _ h => Or.inr h) hl0.1 (c_X0_refuse l D q s.heap.size a v b u (3 : Int32) (v 0 6) y40 hy40) [0, 1, 2, 3, 4, 5, 6, 7, 8, 9, 10, 11, 12, 13] [] [0, 1, 2, 3, 4, 5, 6, 7, 8, 9, 10, 11, 12, 13] rfl (Wr := []) rfl (by decide) (by decide) (by decide) (by decide) (fun _ => rfl) 0 rfl rfl rfl k_374 mX0_refuse ⟨rfl, rfl⟩ ⟨Nat.le_of_ble_eq_true rfl, Nat.le_of_ble_eq_true rfl⟩ rfl rfl (Nat.le_of_ble_eq_true rfl) dX0_isNumber_40 ⟨Nat.zero_le _, Nat.zero_le _⟩ (fun H1 locs1 hP hD hS1 => ?_)
      have hP1 : va_P D cls (wX0 q a y40.2 (b 99) ++ wX3 q b u) H1 := hP
      have hD1 : va_D (va_A (wX0 q a v (b 99) ++ wX3 q b u) s.heap.size) (wX0 q a y40.2 (b 99) ++ wX3 q b u) := hD
      clear hP hD hP0 hD0 hS0
      refine lv_if_eq (tgt := 50) hx hb dX0_isNumber_43 (by decide) (fun c43 => ?_) (fun c43 => ?_)
      · replace hm := tp hm c43
        refine lv_iconst (v := (0 : Int32)) hx hb dX0_isNumber_50 (by decide) ?_
        exact eWz (Wf := fun (uu : SV) => wX0 q a uu (b 99) ++ wX3 q b u) (u := y40.2) X hr hlocks rfl hP1 hD1 hS1 hm dX0_isNumber_51
      · replace hm := tn hm c43
        refine lv_iconst (v := (1 : Int32)) hx hb dX0_isNumber_46 (by decide) ?_
        refine lv_goto (tgt := 51) hx hb dX0_isNumber_47 (by decide) ?_
        exact eWz (Wf := fun (uu : SV) => wX0 q a uu (b 99) ++ wX3 q b u) (u := y40.2) X hr hlocks rfl hP1 hD1 hS1 hm dX0_isNumber_51
    · replace hm := tn hm c23
      refine lv_aload_n hx hb dX0_isNumber_26 rfl (lv_at hl0 0 rfl) ?_
      refine va_get (D := D) (ci := 0) (v := .int (v 0 8)) (C := RX0) (T := TX0) (N := 13) hx hb hW iX0 hown hK hP0 0 rfl rfl 8 (by decide) (hW _ k_185) (fun _ h => h) rfl dX0_isNumber_27 ?_
      refine lv_iload_n hx hb dX0_isNumber_30 rfl (lv_at hl0 2 rfl) ?_
      refine lv_icmp_le (tgt := 46) hx hb dX0_isNumber_31 (by decide) (fun c31 => ?_) (fun c31 => ?_)
      · replace hm := tp hm c31
        refine lv_iconst (v := (1 : Int32)) hx hb dX0_isNumber_46 (by decide) ?_
        refine lv_goto (tgt := 51) hx hb dX0_isNumber_47 (by decide) ?_
        exact eWz (Wf := fun (uu : SV) => wX0 q a uu (b 99) ++ wX3 q b u) (u := v) X hr hlocks rfl hP0 hD0 hS0 hm dX0_isNumber_51
      · replace hm := tn hm c31
        refine lv_aload_n hx hb dX0_isNumber_34 rfl (lv_at hl0 0 rfl) ?_
        refine lv_iconst (v := (3 : Int32)) hx hb dX0_isNumber_35 (by decide) ?_
        refine lv_aload_n hx hb dX0_isNumber_36 rfl (lv_at hl0 0 rfl) ?_
        refine va_get (D := D) (ci := 0) (v := .int (v 0 6)) (C := RX0) (T := TX0) (N := 13) hx hb hW iX0 hown hK hP0 0 rfl rfl 6 (by decide) (hW _ k_183) (fun _ h => h) rfl dX0_isNumber_37 ?_
        obtain ⟨y40, hy40, hm⟩ := bn hm
        refine cVWi (As := [.int (3 : Int32), .int (v 0 6)]) (rest := []) (Wn := fun (uu : SV) => wX0 q a uu (b 99) ++ wX3 q b u) X hP0 hD0 hS0 (fun _ h => Or.inr h) hl0.1 (c_X0_refuse l D q s.heap.size a v b u (3 : Int32) (v 0 6) y40 hy40) [0, 1, 2, 3, 4, 5, 6, 7, 8, 9, 10, 11, 12, 13] [] [0, 1, 2, 3, 4, 5, 6, 7, 8, 9, 10, 11, 12, 13] rfl (Wr := []) rfl (by decide) (by decide) (by decide) (by decide) (fun _ => rfl) 0 rfl rfl rfl k_374 mX0_refuse ⟨rfl, rfl⟩ ⟨Nat.le_of_ble_eq_true rfl, Nat.le_of_ble_eq_true rfl⟩ rfl rfl (Nat.le_of_ble_eq_true rfl) dX0_isNumber_40 ⟨Nat.zero_le _, Nat.zero_le _⟩ (fun H2 locs2 hP hD hS2 => ?_)
        have hP2 : va_P D cls (wX0 q a y40.2 (b 99) ++ wX3 q b u) H2 := hP
        have hD2 : va_D (va_A (wX0 q a v (b 99) ++ wX3 q b u) s.heap.size) (wX0 q a y40.2 (b 99) ++ wX3 q b u) := hD
        clear hP hD hP0 hD0 hS0
        refine lv_if_eq (tgt := 50) hx hb dX0_isNumber_43 (by decide) (fun c43 => ?_) (fun c43 => ?_)
        · replace hm := tp hm c43
          refine lv_iconst (v := (0 : Int32)) hx hb dX0_isNumber_50 (by decide) ?_
          exact eWz (Wf := fun (uu : SV) => wX0 q a uu (b 99) ++ wX3 q b u) (u := y40.2) X hr hlocks rfl hP2 hD2 hS2 hm dX0_isNumber_51
        · replace hm := tn hm c43
          refine lv_iconst (v := (1 : Int32)) hx hb dX0_isNumber_46 (by decide) ?_
          refine lv_goto (tgt := 51) hx hb dX0_isNumber_47 (by decide) ?_
          exact eWz (Wf := fun (uu : SV) => wX0 q a uu (b 99) ++ wX3 q b u) (u := y40.2) X hr hlocks rfl hP2 hD2 hS2 hm dX0_isNumber_51
  · replace hm := tn hm c5
    refine lv_aload_n hx hb dX0_isNumber_8 rfl (lv_at hl0 0 rfl) ?_
    refine lv_iconst (v := (2 : Int32)) hx hb dX0_isNumber_9 (by decide) ?_
    refine lv_aload_n hx hb dX0_isNumber_10 rfl (lv_at hl0 0 rfl) ?_
    refine va_get (D := D) (ci := 0) (v := .int (v 0 6)) (C := RX0) (T := TX0) (N := 13) hx hb hW iX0 hown hK hP0 0 rfl rfl 6 (by decide) (hW _ k_183) (fun _ h => h) rfl dX0_isNumber_11 ?_
    obtain ⟨y14, hy14, hm⟩ := bn hm
    refine cVWi (As := [.int (2 : Int32), .int (v 0 6)]) (rest := []) (Wn := fun (uu : SV) => wX0 q a uu (b 99) ++ wX3 q b u) X hP0 hD0 hS0 (fun _ h => Or.inr h) hl0.1 (c_X0_refuse l D q s.heap.size a v b u (2 : Int32) (v 0 6) y14 hy14) [0, 1, 2, 3, 4, 5, 6, 7, 8, 9, 10, 11, 12, 13] [] [0, 1, 2, 3, 4, 5, 6, 7, 8, 9, 10, 11, 12, 13] rfl (Wr := []) rfl (by decide) (by decide) (by decide) (by decide) (fun _ => rfl) 0 rfl rfl rfl k_374 mX0_refuse ⟨rfl, rfl⟩ ⟨Nat.le_of_ble_eq_true rfl, Nat.le_of_ble_eq_true rfl⟩ rfl rfl (Nat.le_of_ble_eq_true rfl) dX0_isNumber_14 ⟨Nat.zero_le _, Nat.zero_le _⟩ (fun H3 locs3 hP hD hS3 => ?_)
    have hP3 : va_P D cls (wX0 q a y14.2 (b 99) ++ wX3 q b u) H3 := hP
    have hD3 : va_D (va_A (wX0 q a v (b 99) ++ wX3 q b u) s.heap.size) (wX0 q a y14.2 (b 99) ++ wX3 q b u) := hD
    clear hP hD hP0 hD0 hS0
    obtain ⟨hz0, hm⟩ := ckd hm
    have hnz := nz_nar hz0
    exact eWz (Wf := fun (uu : SV) => wX0 q a uu (b 99) ++ wX3 q b u) (u := y14.2) X hr hlocks hnz hP3 hD3 hS3 hm dX0_isNumber_17
noncomputable def m_X0_readNumber (v : SV) (u : SV) (x1 : Int32) (x2 : Int32) : Option (Int32 × SV) :=
  (m_X0_readToken v u).bind (fun y1 => (if y1.1 = 0 then some ((0 : Int32), y1.2) else (m_X0_isNumber y1.2 u x1 x2).bind (fun y10 => (if y10.1 = 0 then some ((0 : Int32), y10.2) else some ((1 : Int32), y10.2)))))
set_option maxHeartbeats 4000000 in
set_option maxRecDepth 100000 in
theorem c_X0_readNumber (l : Launch) (D : va_G) (q : Nat → ClassId) (sz : Nat) (a : Nat → Nat) (v : SV) (b : Nat → Nat) (u : SV) (x1 : Int32) (x2 : Int32) (res : Int32 × SV) (hm : m_X0_readNumber v u x1 x2 = some res) : Met l yX0_readNumber (mw yX0_readNumber cX0_readNumber 3 (some .boolean)) ({ frames := 2, cells := 0, slots := 0, locals := 44 } : Room) (pcW D q (wX0 q a v (b 99) ++ wX3 q b u) sz [.ref (a 99), .int x1, .int x2]) (va_Qi (fun r w => r = res.1 ∧ w = res.2) (bW D q (wX0 q a v (b 99) ++ wX3 q b u) sz (fun (uu : SV) => wX0 q a uu (b 99) ++ wX3 q b u)) (va_A (wX0 q a v (b 99) ++ wX3 q b u) sz)) 0 0 (va_A (wX0 q a v (b 99) ++ wX3 q b u) sz) := by
  refine Met.ofW (cc := cX0_readNumber) (maxL := 3) (ret := (some .boolean)) (by decide) rfl ?_
  intro p e s m args below meth c s₁ B hml hv
  obtain ⟨rfl, hsz, hP0, hK, hD0⟩ := hv
  have hx := B.exec
  have hb := B.bytes
  have hr := B.returns
  have hW := mw_ws (atoms_spec (ws := mw yX0_readNumber cX0_readNumber 3 (some .boolean)) B.pre)
  have hown : s.vm.findClass RX0 = some m.cls := findClass_of_methodNamed B.named
  have hlocks := B.notSynchronized
  have X : Cx p s m [.ref (a 99), .int x1, .int x2].toArray c cX0_readNumber 3 RX0 D q := ⟨hx, hb, hml, hown, hW, hK⟩
  subst hsz
  replace hD0 := hD0.self (sz := s.heap.size)
  have hS0 : va_S (va_A (wX0 q a v (b 99) ++ wX3 q b u) s.heap.size) s.heap s.heap [] := va_S.rf
  have hl0 := lv_entry ([.ref (a 99), .int x1, .int x2]) (n := 3) (Nat.le_of_ble_eq_true rfl)
  rw [lg_entry_eq]
  generalize (lg_sl ([.ref (a 99), .int x1, .int x2]) ++ List.replicate (3 - (lg_sl ([.ref (a 99), .int x1, .int x2])).length) Slot.unset).toArray = ls0 at hl0 ⊢
  have hl0 : lv_has ls0 3 [(0, .ref (a 99)), (1, .int x1), (2, .int x2)] := hl0
  unfold m_X0_readNumber at hm
  refine lv_aload_n hx hb dX0_readNumber_0 rfl (lv_at hl0 0 rfl) ?_
  obtain ⟨y1, hy1, hm⟩ := bn hm
  refine cVWi (As := []) (rest := []) (Wn := fun (uu : SV) => wX0 q a uu (b 99) ++ wX3 q b u) X hP0 hD0 hS0 (fun _ h => Or.inr h) hl0.1 (c_X0_readToken l D q s.heap.size a v b u y1 hy1) [0, 1, 2, 3, 4, 5, 6, 7, 8, 9, 10, 11, 12, 13] [] [0, 1, 2, 3, 4, 5, 6, 7, 8, 9, 10, 11, 12, 13] rfl (Wr := []) rfl (by decide) (by decide) (by decide) (by decide) (fun _ => rfl) 0 rfl rfl rfl k_366 mX0_readToken ⟨rfl, rfl⟩ ⟨Nat.le_of_ble_eq_true rfl, Nat.le_of_ble_eq_true rfl⟩ rfl rfl (Nat.le_of_ble_eq_true rfl) dX0_readNumber_1 ⟨Nat.zero_le _, Nat.zero_le _⟩ (fun H1 locs1 hP hD hS1 => ?_)
  have hP1 : va_P D cls (wX0 q a y1.2 (b 99) ++ wX3 q b u) H1 := hP
  have hD1 : va_D (va_A (wX0 q a v (b 99) ++ wX3 q b u) s.heap.size) (wX0 q a y1.2 (b 99) ++ wX3 q b u) := hD
  clear hP hD hP0 hD0 hS0
  refine lv_if_eq (tgt := 20) hx hb dX0_readNumber_4 (by decide) (fun c4 => ?_) (fun c4 => ?_)
  · replace hm := tp hm c4
    refine lv_iconst (v := (0 : Int32)) hx hb dX0_readNumber_20 (by decide) ?_
    exact eWz (Wf := fun (uu : SV) => wX0 q a uu (b 99) ++ wX3 q b u) (u := y1.2) X hr hlocks rfl hP1 hD1 hS1 hm dX0_readNumber_21
  · replace hm := tn hm c4
    refine lv_aload_n hx hb dX0_readNumber_7 rfl (lv_at hl0 0 rfl) ?_
    refine lv_iload_n hx hb dX0_readNumber_8 rfl (lv_at hl0 1 rfl) ?_
    refine lv_iload_n hx hb dX0_readNumber_9 rfl (lv_at hl0 2 rfl) ?_
    obtain ⟨y10, hy10, hm⟩ := bn hm
    refine cVWi (As := [.int x1, .int x2]) (rest := []) (Wn := fun (uu : SV) => wX0 q a uu (b 99) ++ wX3 q b u) X hP1 hD1 hS1 (fun _ h => Or.inr h) hl0.1 (c_X0_isNumber l D q H1.size a y1.2 b u x1 x2 y10 hy10) [0, 1, 2, 3, 4, 5, 6, 7, 8, 9, 10, 11, 12, 13] [] [0, 1, 2, 3, 4, 5, 6, 7, 8, 9, 10, 11, 12, 13] rfl (Wr := []) rfl (by decide) (by decide) (by decide) (by decide) (fun _ => rfl) 0 rfl rfl rfl k_458 mX0_isNumber ⟨rfl, rfl⟩ ⟨Nat.le_of_ble_eq_true rfl, Nat.le_of_ble_eq_true rfl⟩ rfl rfl (Nat.le_of_ble_eq_true rfl) dX0_readNumber_10 ⟨Nat.zero_le _, Nat.zero_le _⟩ (fun H2 locs2 hP hD hS2 => ?_)
    have hP2 : va_P D cls (wX0 q a y10.2 (b 99) ++ wX3 q b u) H2 := hP
    have hD2 : va_D (va_A (wX0 q a v (b 99) ++ wX3 q b u) s.heap.size) (wX0 q a y10.2 (b 99) ++ wX3 q b u) := hD
    clear hP hD hP1 hD1 hS1
    refine lv_if_eq (tgt := 20) hx hb dX0_readNumber_13 (by decide) (fun c13 => ?_) (fun c13 => ?_)
    · replace hm := tp hm c13
      refine lv_iconst (v := (0 : Int32)) hx hb dX0_readNumber_20 (by decide) ?_
      exact eWz (Wf := fun (uu : SV) => wX0 q a uu (b 99) ++ wX3 q b u) (u := y10.2) X hr hlocks rfl hP2 hD2 hS2 hm dX0_readNumber_21
    · replace hm := tn hm c13
      refine lv_iconst (v := (1 : Int32)) hx hb dX0_readNumber_16 (by decide) ?_
      refine lv_goto (tgt := 21) hx hb dX0_readNumber_17 (by decide) ?_
      exact eWz (Wf := fun (uu : SV) => wX0 q a uu (b 99) ++ wX3 q b u) (u := y10.2) X hr hlocks rfl hP2 hD2 hS2 hm dX0_readNumber_21
noncomputable def m_X0_readBits_K4 (z4 : Int32 × Int32 × SV) : Option (Int32 × SV) :=
  some (z4.1, z4.2.2)
noncomputable def m_X0_readBits_L4 (u : SV) (x1 : Int32) (z4 : Int32 × Int32 × SV) : Option ((Int32 × Int32 × SV) ⊕ ((Int32 × Int32 × SV) ⊕ (Int32 × SV))) :=
  (if (160 : Int32) < z4.2.1 then some (.inr (.inl (z4.1, z4.2.1, z4.2.2))) else (m_X0_readToken z4.2.2 u).bind (fun y12 => (if y12.1 = 0 then some (.inr (.inl (z4.1, z4.2.1, y12.2))) else (if (y12.2 0 5) = (3 : Int32) then some (.inr (.inl (z4.1, z4.2.1, y12.2))) else (m_X0_isNumber y12.2 u (0 : Int32) x1).bind (fun y29 => (if y29.1 = 0 then some (.inr (.inr ((0 : Int32), y29.2))) else (if ((z4.1 >>> ((y29.2 0 8) &&& 31)) &&& (1 : Int32)) = (1 : Int32) then (m_X0_refuse y29.2 u (4 : Int32) (y29.2 0 6)).bind (fun y55 => some (.inr (.inr ((0 : Int32), y55.2)))) else some (.inl ((z4.1 ||| ((1 : Int32) <<< ((y29.2 0 8) &&& 31))), (z4.2.1 + (1 : Int32)), y29.2)))))))))
noncomputable def m_X0_readBits (v : SV) (u : SV) (x1 : Int32) : Option (Int32 × SV) :=
  (lpC (m_X0_readBits_L4 u x1) ((0 : Int32), (0 : Int32), v)).bind (Sum.elim (m_X0_readBits_K4) (fun y => some y))
set_option maxHeartbeats 4000000 in
set_option maxRecDepth 100000 in
theorem c_X0_readBits (l : Launch) (D : va_G) (q : Nat → ClassId) (sz : Nat) (a : Nat → Nat) (v : SV) (b : Nat → Nat) (u : SV) (x1 : Int32) (res : Int32 × SV) (hm : m_X0_readBits v u x1 = some res) : Met l yX0_readBits (mw yX0_readBits cX0_readBits 4 (some .int)) ({ frames := 2, cells := 0, slots := 0, locals := 44 } : Room) (pcW D q (wX0 q a v (b 99) ++ wX3 q b u) sz [.ref (a 99), .int x1]) (va_Qi (fun r w => r = res.1 ∧ w = res.2) (bW D q (wX0 q a v (b 99) ++ wX3 q b u) sz (fun (uu : SV) => wX0 q a uu (b 99) ++ wX3 q b u)) (va_A (wX0 q a v (b 99) ++ wX3 q b u) sz)) 0 0 (va_A (wX0 q a v (b 99) ++ wX3 q b u) sz) := by
  refine Met.ofW (cc := cX0_readBits) (maxL := 4) (ret := (some .int)) (by decide) rfl ?_
  intro p e s m args below meth c s₁ B hml hv
  obtain ⟨rfl, hsz, hP0, hK, hD0⟩ := hv
  have hx := B.exec
  have hb := B.bytes
  have hr := B.returns
  have hW := mw_ws (atoms_spec (ws := mw yX0_readBits cX0_readBits 4 (some .int)) B.pre)
  have hown : s.vm.findClass RX0 = some m.cls := findClass_of_methodNamed B.named
  have hlocks := B.notSynchronized
  have X : Cx p s m [.ref (a 99), .int x1].toArray c cX0_readBits 4 RX0 D q := ⟨hx, hb, hml, hown, hW, hK⟩
  subst hsz
  replace hD0 := hD0.self (sz := s.heap.size)
  have hS0 : va_S (va_A (wX0 q a v (b 99) ++ wX3 q b u) s.heap.size) s.heap s.heap [] := va_S.rf
  have hl0 := lv_entry ([.ref (a 99), .int x1]) (n := 4) (Nat.le_of_ble_eq_true rfl)
  rw [lg_entry_eq]
  generalize (lg_sl ([.ref (a 99), .int x1]) ++ List.replicate (4 - (lg_sl ([.ref (a 99), .int x1])).length) Slot.unset).toArray = ls0 at hl0 ⊢
  have hl0 : lv_has ls0 4 [(0, .ref (a 99)), (1, .int x1)] := hl0
  unfold m_X0_readBits at hm
  refine lv_iconst (v := (0 : Int32)) hx hb dX0_readBits_0 (by decide) ?_
  refine lv_istore_n (lv' := [(2, .int (0 : Int32)), (0, .ref (a 99)), (1, .int x1)]) hx hb dX0_readBits_1 rfl hl0 (by decide) rfl (fun ls1 hl1 => ?_)
  clear hl0
  refine lv_iconst (v := (0 : Int32)) hx hb dX0_readBits_2 (by decide) ?_
  refine lv_istore_n (lv' := [(3, .int (0 : Int32)), (2, .int (0 : Int32)), (0, .ref (a 99)), (1, .int x1)]) hx hb dX0_readBits_3 rfl hl1 (by decide) rfl (fun ls2 hl2 => ?_)
  clear hl1
  obtain ⟨r4, hr4, hm⟩ := bn hm
  obtain ⟨n4, hn4⟩ := lpC_ex hr4
  have hE4 : ∀ z4 : Int32 × Int32 × SV, m_X0_readBits_K4 z4 = some res → ∀ (H : Heap) (locs : List Loc), va_P D cls (wX0 q a z4.2.2 (b 99) ++ wX3 q b u) H → va_D (va_A (wX0 q a v (b 99) ++ wX3 q b u) s.heap.size) (wX0 q a z4.2.2 (b 99) ++ wX3 q b u) → va_S (va_A (wX0 q a v (b 99) ++ wX3 q b u) s.heap.size) s.heap H locs → ∀ ls : Array Slot, lv_has ls 4 [(2, .int z4.1)] → W p l e ((headSpec (mw yX0_readBits cX0_readBits 4 (some .int)) ({ frames := 2, cells := 0, slots := 0, locals := 44 } : Room)).room) s m [.ref (a 99), .int x1].toArray below meth c H locs 0 0 (MQ below (va_Qi (fun r w => r = res.1 ∧ w = res.2) (bW D q (wX0 q a v (b 99) ++ wX3 q b u) s.heap.size (fun (uu : SV) => wX0 q a uu (b 99) ++ wX3 q b u)) (va_A (wX0 q a v (b 99) ++ wX3 q b u) s.heap.size)) [.ref (a 99), .int x1].toArray s 0 0 (va_A (wX0 q a v (b 99) ++ wX3 q b u) s.heap.size)) (F0 m 76 ls []) := by
    intro z4 hm H6 locs6 hP6 hD6 hS6 ls5 hl5
    unfold m_X0_readBits_K4 at hm
    refine lv_iload_n hx hb dX0_readBits_76 rfl (lv_at hl5 0 rfl) ?_
    exact eWi (Wf := fun (uu : SV) => wX0 q a uu (b 99) ++ wX3 q b u) (u := z4.2.2) X hr hlocks hP6 hD6 hS6 hm dX0_readBits_77
  have hL4 : ∀ (n : Nat) (z4 : Int32 × Int32 × SV) (ρ4 : (Int32 × Int32 × SV) ⊕ (Int32 × SV)), lpO (m_X0_readBits_L4 u x1) n z4 = some ρ4 → (Sum.elim (m_X0_readBits_K4) (fun y => some y)) ρ4 = some res → ∀ (H : Heap) (locs : List Loc), va_P D cls (wX0 q a z4.2.2 (b 99) ++ wX3 q b u) H → va_D (va_A (wX0 q a v (b 99) ++ wX3 q b u) s.heap.size) (wX0 q a z4.2.2 (b 99) ++ wX3 q b u) → va_S (va_A (wX0 q a v (b 99) ++ wX3 q b u) s.heap.size) s.heap H locs → ∀ ls : Array Slot, lv_has ls 4 [(0, .ref (a 99)), (1, .int x1), (2, .int z4.1), (3, .int z4.2.1)] → W p l e ((headSpec (mw yX0_readBits cX0_readBits 4 (some .int)) ({ frames := 2, cells := 0, slots := 0, locals := 44 } : Room)).room) s m [.ref (a 99), .int x1].toArray below meth c H locs 0 0 (MQ below (va_Qi (fun r w => r = res.1 ∧ w = res.2) (bW D q (wX0 q a v (b 99) ++ wX3 q b u) s.heap.size (fun (uu : SV) => wX0 q a uu (b 99) ++ wX3 q b u)) (va_A (wX0 q a v (b 99) ++ wX3 q b u) s.heap.size)) [.ref (a 99), .int x1].toArray s 0 0 (va_A (wX0 q a v (b 99) ++ wX3 q b u) s.heap.size)) (F0 m 4 ls []) := by
    intro n
    induction n with
    | zero => intro _ _ h; cases h
    | succ n ih4 =>
      intro z4 ρ4 hz4 hK4 H4 locs4 hP4 hD4 hS4 ls3 hl3
      obtain ⟨t4, hm, hz4⟩ := bn hz4
      unfold m_X0_readBits_L4 at hm
      refine lv_iload_n hx hb dX0_readBits_4 rfl (lv_at hl3 3 rfl) ?_
      refine lv_sipush (v := (160 : Int32)) hx hb dX0_readBits_5 (by decide) ?_
      refine lv_icmp_gt (tgt := 76) hx hb dX0_readBits_8 (by decide) (fun c8 => ?_) (fun c8 => ?_)
      · replace hm := tp hm c8
        cases hm
        cases hz4
        exact hE4 (z4.1, z4.2.1, z4.2.2) hK4 _ _ hP4 hD4 hS4 _ (lv_sub hl3 [2] rfl)
      · replace hm := tn hm c8
        refine lv_aload_n hx hb dX0_readBits_11 rfl (lv_at hl3 0 rfl) ?_
        obtain ⟨y12, hy12, hm⟩ := bn hm
        refine cVWi (As := []) (rest := []) (Wn := fun (uu : SV) => wX0 q a uu (b 99) ++ wX3 q b u) X hP4 hD4 hS4 (fun _ h => Or.inr h) hl3.1 (c_X0_readToken l D q H4.size a z4.2.2 b u y12 hy12) [0, 1, 2, 3, 4, 5, 6, 7, 8, 9, 10, 11, 12, 13] [] [0, 1, 2, 3, 4, 5, 6, 7, 8, 9, 10, 11, 12, 13] rfl (Wr := []) rfl (by decide) (by decide) (by decide) (by decide) (fun _ => rfl) 0 rfl rfl rfl k_366 mX0_readToken ⟨rfl, rfl⟩ ⟨Nat.le_of_ble_eq_true rfl, Nat.le_of_ble_eq_true rfl⟩ rfl rfl (Nat.le_of_ble_eq_true rfl) dX0_readBits_12 ⟨Nat.zero_le _, Nat.zero_le _⟩ (fun H7 locs7 hP hD hS7 => ?_)
        have hP7 : va_P D cls (wX0 q a y12.2 (b 99) ++ wX3 q b u) H7 := hP
        have hD7 : va_D (va_A (wX0 q a v (b 99) ++ wX3 q b u) s.heap.size) (wX0 q a y12.2 (b 99) ++ wX3 q b u) := hD
        clear hP hD hP4 hD4 hS4
        refine lv_if_eq (tgt := 76) hx hb dX0_readBits_15 (by decide) (fun c15 => ?_) (fun c15 => ?_)
        · replace hm := tp hm c15
          cases hm
          cases hz4
          exact hE4 (z4.1, z4.2.1, y12.2) hK4 _ _ hP7 hD7 hS7 _ (lv_sub hl3 [2] rfl)
        · replace hm := tn hm c15
          refine lv_aload_n hx hb dX0_readBits_18 rfl (lv_at hl3 0 rfl) ?_
          refine va_get (D := D) (ci := 0) (v := .int (y12.2 0 5)) (C := RX0) (T := TX0) (N := 13) hx hb hW iX0 hown hK hP7 0 rfl rfl 5 (by decide) (hW _ k_182) (fun _ h => h) rfl dX0_readBits_19 ?_
          refine lv_iconst (v := (3 : Int32)) hx hb dX0_readBits_22 (by decide) ?_
          refine lv_icmp_eq (tgt := 76) hx hb dX0_readBits_23 (by decide) (fun c23 => ?_) (fun c23 => ?_)
          · replace hm := tp hm c23
            cases hm
            cases hz4
            exact hE4 (z4.1, z4.2.1, y12.2) hK4 _ _ hP7 hD7 hS7 _ (lv_sub hl3 [2] rfl)
          · replace hm := tn hm c23
            refine lv_aload_n hx hb dX0_readBits_26 rfl (lv_at hl3 0 rfl) ?_
            refine lv_iconst (v := (0 : Int32)) hx hb dX0_readBits_27 (by decide) ?_
            refine lv_iload_n hx hb dX0_readBits_28 rfl (lv_at hl3 1 rfl) ?_
            obtain ⟨y29, hy29, hm⟩ := bn hm
            refine cVWi (As := [.int (0 : Int32), .int x1]) (rest := []) (Wn := fun (uu : SV) => wX0 q a uu (b 99) ++ wX3 q b u) X hP7 hD7 hS7 (fun _ h => Or.inr h) hl3.1 (c_X0_isNumber l D q H7.size a y12.2 b u (0 : Int32) x1 y29 hy29) [0, 1, 2, 3, 4, 5, 6, 7, 8, 9, 10, 11, 12, 13] [] [0, 1, 2, 3, 4, 5, 6, 7, 8, 9, 10, 11, 12, 13] rfl (Wr := []) rfl (by decide) (by decide) (by decide) (by decide) (fun _ => rfl) 0 rfl rfl rfl k_458 mX0_isNumber ⟨rfl, rfl⟩ ⟨Nat.le_of_ble_eq_true rfl, Nat.le_of_ble_eq_true rfl⟩ rfl rfl (Nat.le_of_ble_eq_true rfl) dX0_readBits_29 ⟨Nat.zero_le _, Nat.zero_le _⟩ (fun H8 locs8 hP hD hS8 => ?_)
            have hP8 : va_P D cls (wX0 q a y29.2 (b 99) ++ wX3 q b u) H8 := hP
            have hD8 : va_D (va_A (wX0 q a v (b 99) ++ wX3 q b u) s.heap.size) (wX0 q a y29.2 (b 99) ++ wX3 q b u) := hD
            clear hP hD hP7 hD7 hS7
            refine lv_if_ne (tgt := 37) hx hb dX0_readBits_32 (by decide) (fun c32 => ?_) (fun c32 => ?_)
            · replace hm := tn hm c32
              refine lv_iload_n hx hb dX0_readBits_37 rfl (lv_at hl3 2 rfl) ?_
              refine lv_aload_n hx hb dX0_readBits_38 rfl (lv_at hl3 0 rfl) ?_
              refine va_get (D := D) (ci := 0) (v := .int (y29.2 0 8)) (C := RX0) (T := TX0) (N := 13) hx hb hW iX0 hown hK hP8 0 rfl rfl 8 (by decide) (hW _ k_185) (fun _ h => h) rfl dX0_readBits_39 ?_
              refine lv_ishr hx hb dX0_readBits_42 ?_
              refine lv_iconst (v := (1 : Int32)) hx hb dX0_readBits_43 (by decide) ?_
              refine lv_iand hx hb dX0_readBits_44 ?_
              refine lv_iconst (v := (1 : Int32)) hx hb dX0_readBits_45 (by decide) ?_
              refine lv_icmp_ne (tgt := 61) hx hb dX0_readBits_46 (by decide) (fun c46 => ?_) (fun c46 => ?_)
              · replace hm := tn hm c46
                refine lv_iload_n hx hb dX0_readBits_61 rfl (lv_at hl3 2 rfl) ?_
                refine lv_iconst (v := (1 : Int32)) hx hb dX0_readBits_62 (by decide) ?_
                refine lv_aload_n hx hb dX0_readBits_63 rfl (lv_at hl3 0 rfl) ?_
                refine va_get (D := D) (ci := 0) (v := .int (y29.2 0 8)) (C := RX0) (T := TX0) (N := 13) hx hb hW iX0 hown hK hP8 0 rfl rfl 8 (by decide) (hW _ k_185) (fun _ h => h) rfl dX0_readBits_64 ?_
                refine lv_ishl hx hb dX0_readBits_67 ?_
                refine lv_ior hx hb dX0_readBits_68 ?_
                refine lv_istore_n (lv' := [(2, .int (z4.1 ||| ((1 : Int32) <<< ((y29.2 0 8) &&& 31)))), (0, .ref (a 99)), (1, .int x1), (3, .int z4.2.1)]) hx hb dX0_readBits_69 rfl hl3 (by decide) rfl (fun ls10 hl10 => ?_)
                clear hl3
                refine lv_iinc (v := (z4.2.1 + (1 : Int32))) (lv' := [(3, .int (z4.2.1 + (1 : Int32))), (2, .int (z4.1 ||| ((1 : Int32) <<< ((y29.2 0 8) &&& 31)))), (0, .ref (a 99)), (1, .int x1)]) hx hb dX0_readBits_70 hl10 (k := 3) rfl rfl (by decide) rfl (fun ls11 hl11 => ?_)
                clear hl10
                refine lv_goto (tgt := 4) hx hb dX0_readBits_73 (by decide) ?_
                cases hm
                exact ih4 ((z4.1 ||| ((1 : Int32) <<< ((y29.2 0 8) &&& 31))), (z4.2.1 + (1 : Int32)), y29.2) ρ4 hz4 hK4 _ _ hP8 hD8 hS8 _ (lv_sub hl11 [2, 3, 1, 0] rfl)
              · replace hm := tp hm c46
                refine lv_aload_n hx hb dX0_readBits_49 rfl (lv_at hl3 0 rfl) ?_
                refine lv_iconst (v := (4 : Int32)) hx hb dX0_readBits_50 (by decide) ?_
                refine lv_aload_n hx hb dX0_readBits_51 rfl (lv_at hl3 0 rfl) ?_
                refine va_get (D := D) (ci := 0) (v := .int (y29.2 0 6)) (C := RX0) (T := TX0) (N := 13) hx hb hW iX0 hown hK hP8 0 rfl rfl 6 (by decide) (hW _ k_183) (fun _ h => h) rfl dX0_readBits_52 ?_
                obtain ⟨y55, hy55, hm⟩ := bn hm
                refine cVWi (As := [.int (4 : Int32), .int (y29.2 0 6)]) (rest := []) (Wn := fun (uu : SV) => wX0 q a uu (b 99) ++ wX3 q b u) X hP8 hD8 hS8 (fun _ h => Or.inr h) hl3.1 (c_X0_refuse l D q H8.size a y29.2 b u (4 : Int32) (y29.2 0 6) y55 hy55) [0, 1, 2, 3, 4, 5, 6, 7, 8, 9, 10, 11, 12, 13] [] [0, 1, 2, 3, 4, 5, 6, 7, 8, 9, 10, 11, 12, 13] rfl (Wr := []) rfl (by decide) (by decide) (by decide) (by decide) (fun _ => rfl) 0 rfl rfl rfl k_374 mX0_refuse ⟨rfl, rfl⟩ ⟨Nat.le_of_ble_eq_true rfl, Nat.le_of_ble_eq_true rfl⟩ rfl rfl (Nat.le_of_ble_eq_true rfl) dX0_readBits_55 ⟨Nat.zero_le _, Nat.zero_le _⟩ (fun H9 locs9 hP hD hS9 => ?_)
                have hP9 : va_P D cls (wX0 q a y55.2 (b 99) ++ wX3 q b u) H9 := hP
                have hD9 : va_D (va_A (wX0 q a v (b 99) ++ wX3 q b u) s.heap.size) (wX0 q a y55.2 (b 99) ++ wX3 q b u) := hD
                clear hP hD hP8 hD8 hS8
                refine lv_pop hx hb dX0_readBits_58 rfl ?_
                refine lv_iconst (v := (0 : Int32)) hx hb dX0_readBits_59 (by decide) ?_
                cases hm
                cases hz4
                have hm : (some ((0 : Int32), y55.2) : Option (Int32 × SV)) = some res := hK4
                exact eWi (Wf := fun (uu : SV) => wX0 q a uu (b 99) ++ wX3 q b u) (u := y55.2) X hr hlocks hP9 hD9 hS9 hm dX0_readBits_60
            · replace hm := tp hm c32
              refine lv_iconst (v := (0 : Int32)) hx hb dX0_readBits_35 (by decide) ?_
              cases hm
              cases hz4
              have hm : (some ((0 : Int32), y29.2) : Option (Int32 × SV)) = some res := hK4
              exact eWi (Wf := fun (uu : SV) => wX0 q a uu (b 99) ++ wX3 q b u) (u := y29.2) X hr hlocks hP8 hD8 hS8 hm dX0_readBits_36
  exact hL4 n4 ((0 : Int32), (0 : Int32), v) r4 hn4 hm _ _ hP0 hD0 hS0 _ (lv_sub hl2 [2, 3, 1, 0] rfl)
noncomputable def m_X0_readSitter (v : SV) (u : SV) (x1 : Int32) : Option (Int32 × SV × SV) :=
  (if (u 0 1) < (5 : Int32) then ck (inB (u 0 1) 5) (lett (up2 u 9 (((u 0 1)).toNatClampNeg) x1) (fun v3_ => ck (inB (u 0 1) 5) (lett (up2 v3_ 13 (((u 0 1)).toNatClampNeg) (0 : Int32)) (fun v5_ => (m_X0_readNumber v v5_ (0 : Int32) (5 : Int32)).bind (fun y46 => (if y46.1 = 0 then some ((0 : Int32), y46.2, v5_) else ck (inB (u 0 1) 5) (lett (up2 v5_ 10 (((u 0 1)).toNatClampNeg) (y46.2 0 8)) (fun v8_ => (m_X0_readNumber y46.2 v8_ (0 : Int32) (9 : Int32)).bind (fun y71 => (if y71.1 = 0 then some ((0 : Int32), y71.2, v8_) else ck (inB (u 0 1) 5) (lett (up2 v8_ 11 (((u 0 1)).toNatClampNeg) (y71.2 0 8)) (fun v11_ => (m_X0_readBits y71.2 v11_ (6 : Int32)).bind (fun y103 => ck (inB (u 0 1) 5) (lett (up2 v11_ 12 (((u 0 1)).toNatClampNeg) y103.1) (fun v14_ => lett (up2 v14_ 0 1 ((v14_ 0 1) + (1 : Int32))) (fun v15_ => (if (y103.2 0 3) = 0 then some ((1 : Int32), y103.2, v15_) else some ((0 : Int32), y103.2, v15_)))))))))))))))))) else (m_X0_refuse v u (5 : Int32) (v 0 6)).bind (fun y19 => ck (nzB y19.1) (some (y19.1, y19.2, u))))
set_option maxHeartbeats 4000000 in
set_option maxRecDepth 100000 in
theorem c_X0_readSitter (l : Launch) (D : va_G) (q : Nat → ClassId) (sz : Nat) (a : Nat → Nat) (v : SV) (b : Nat → Nat) (u : SV) (x1 : Int32) (res : Int32 × SV × SV) (hm : m_X0_readSitter v u x1 = some res) : Met l yX0_readSitter (mw yX0_readSitter cX0_readSitter 3 (some .boolean)) ({ frames := 3, cells := 0, slots := 0, locals := 67 } : Room) (pcW D q (wX0 q a v (b 99) ++ wX3 q b u) sz [.ref (a 99), .int x1]) (va_Qi (fun r w => r = res.1 ∧ w = res.2) (bW D q (wX0 q a v (b 99) ++ wX3 q b u) sz (fun (uu : SV × SV) => wX0 q a uu.1 (b 99) ++ wX3 q b uu.2)) (va_A (wX0 q a v (b 99) ++ wX3 q b u) sz)) 0 0 (va_A (wX0 q a v (b 99) ++ wX3 q b u) sz) := by
  refine Met.ofW (cc := cX0_readSitter) (maxL := 3) (ret := (some .boolean)) (by decide) rfl ?_
  intro p e s m args below meth c s₁ B hml hv
  obtain ⟨rfl, hsz, hP0, hK, hD0⟩ := hv
  have hx := B.exec
  have hb := B.bytes
  have hr := B.returns
  have hW := mw_ws (atoms_spec (ws := mw yX0_readSitter cX0_readSitter 3 (some .boolean)) B.pre)
  have hown : s.vm.findClass RX0 = some m.cls := findClass_of_methodNamed B.named
  have hlocks := B.notSynchronized
  have X : Cx p s m [.ref (a 99), .int x1].toArray c cX0_readSitter 3 RX0 D q := ⟨hx, hb, hml, hown, hW, hK⟩
  subst hsz
  replace hD0 := hD0.self (sz := s.heap.size)
  have hS0 : va_S (va_A (wX0 q a v (b 99) ++ wX3 q b u) s.heap.size) s.heap s.heap [] := va_S.rf
  have hl0 := lv_entry ([.ref (a 99), .int x1]) (n := 3) (Nat.le_of_ble_eq_true rfl)
  rw [lg_entry_eq]
  generalize (lg_sl ([.ref (a 99), .int x1]) ++ List.replicate (3 - (lg_sl ([.ref (a 99), .int x1])).length) Slot.unset).toArray = ls0 at hl0 ⊢
  have hl0 : lv_has ls0 3 [(0, .ref (a 99)), (1, .int x1)] := hl0
  unfold m_X0_readSitter at hm
  refine lv_aload_n hx hb dX0_readSitter_0 rfl (lv_at hl0 0 rfl) ?_
  refine va_get (D := D) (ci := 0) (v := .ref (b 99)) (C := RX0) (T := TX0) (N := 13) hx hb hW iX0 hown hK hP0 0 rfl rfl 2 (by decide) (hW _ k_177) (fun _ h => h) rfl dX0_readSitter_1 ?_
  refine va_get (D := D) (ci := 3) (v := .int (u 0 1)) (C := RX3) (T := TX3) (N := 17) hx hb hW iX3 hown hK hP0 2 rfl rfl 1 (by decide) (hW _ k_88) (fun _ h => h) rfl dX0_readSitter_4 ?_
  refine lv_istore_n (lv' := [(2, .int (u 0 1)), (0, .ref (a 99)), (1, .int x1)]) hx hb dX0_readSitter_7 rfl hl0 (by decide) rfl (fun ls1 hl1 => ?_)
  clear hl0
  refine lv_iload_n hx hb dX0_readSitter_8 rfl (lv_at hl1 0 rfl) ?_
  refine lv_iconst (v := (5 : Int32)) hx hb dX0_readSitter_9 (by decide) ?_
  refine lv_icmp_lt (tgt := 23) hx hb dX0_readSitter_10 (by decide) (fun c10 => ?_) (fun c10 => ?_)
  · replace hm := tp hm c10
    refine lv_aload_n hx hb dX0_readSitter_23 rfl (lv_at hl1 1 rfl) ?_
    refine va_get (D := D) (ci := 0) (v := .ref (b 99)) (C := RX0) (T := TX0) (N := 13) hx hb hW iX0 hown hK hP0 0 rfl rfl 2 (by decide) (hW _ k_177) (fun _ h => h) rfl dX0_readSitter_24 ?_
    refine va_get (D := D) (ci := 3) (v := .ref (b 9)) (C := RX3) (T := TX3) (N := 17) hx hb hW iX3 hown hK hP0 2 rfl rfl 9 (by decide) (hW _ k_111) (fun _ h => h) rfl dX0_readSitter_27 ?_
    refine lv_iload_n hx hb dX0_readSitter_30 rfl (lv_at hl1 0 rfl) ?_
    refine lv_iload_n hx hb dX0_readSitter_31 rfl (lv_at hl1 2 rfl) ?_
    obtain ⟨h2, hm⟩ := ckd hm
    refine va_iast (f := (u 9)) hx hb hK hP0 hD0 hS0 6 0 rfl rfl (inB_vp h2) dX0_readSitter_32 (fun H3 locs3 hP hD hS3 => ?_)
    obtain ⟨v3_, e3, hm⟩ := ltd hm
    have hP3 : va_P D cls (wX0 q a v (b 99) ++ wX3 q b v3_) H3 := by rw [e3]; exact hP
    have hD3 : va_D (va_A (wX0 q a v (b 99) ++ wX3 q b u) s.heap.size) (wX0 q a v (b 99) ++ wX3 q b v3_) := by rw [e3]; exact hD
    clear hP hD hP0 hD0 hS0
    refine lv_aload_n hx hb dX0_readSitter_33 rfl (lv_at hl1 1 rfl) ?_
    refine va_get (D := D) (ci := 0) (v := .ref (b 99)) (C := RX0) (T := TX0) (N := 13) hx hb hW iX0 hown hK hP3 0 rfl rfl 2 (by decide) (hW _ k_177) (fun _ h => h) rfl dX0_readSitter_34 ?_
    refine va_get (D := D) (ci := 3) (v := .ref (b 13)) (C := RX3) (T := TX3) (N := 17) hx hb hW iX3 hown hK hP3 2 rfl rfl 13 (by decide) (hW _ k_124) (fun _ h => h) rfl dX0_readSitter_37 ?_
    refine lv_iload_n hx hb dX0_readSitter_40 rfl (lv_at hl1 0 rfl) ?_
    refine lv_iconst (v := (0 : Int32)) hx hb dX0_readSitter_41 (by decide) ?_
    obtain ⟨h4, hm⟩ := ckd hm
    refine va_iast (f := (v3_ 13)) hx hb hK hP3 hD3 hS3 10 0 rfl rfl (inB_vp h4) dX0_readSitter_42 (fun H5 locs5 hP hD hS5 => ?_)
    obtain ⟨v5_, e5, hm⟩ := ltd hm
    have hP5 : va_P D cls (wX0 q a v (b 99) ++ wX3 q b v5_) H5 := by rw [e5]; exact hP
    have hD5 : va_D (va_A (wX0 q a v (b 99) ++ wX3 q b u) s.heap.size) (wX0 q a v (b 99) ++ wX3 q b v5_) := by rw [e5]; exact hD
    clear hP hD hP3 hD3 hS3
    refine lv_aload_n hx hb dX0_readSitter_43 rfl (lv_at hl1 1 rfl) ?_
    refine lv_iconst (v := (0 : Int32)) hx hb dX0_readSitter_44 (by decide) ?_
    refine lv_iconst (v := (5 : Int32)) hx hb dX0_readSitter_45 (by decide) ?_
    obtain ⟨y46, hy46, hm⟩ := bn hm
    refine cVWi (As := [.int (0 : Int32), .int (5 : Int32)]) (rest := []) (Wn := fun (uu : SV) => wX0 q a uu (b 99) ++ wX3 q b v5_) X hP5 hD5 hS5 (fun _ h => Or.inr h) hl1.1 (c_X0_readNumber l D q H5.size a v b v5_ (0 : Int32) (5 : Int32) y46 hy46) [0, 1, 2, 3, 4, 5, 6, 7, 8, 9, 10, 11, 12, 13] [] [0, 1, 2, 3, 4, 5, 6, 7, 8, 9, 10, 11, 12, 13] rfl (Wr := []) rfl (by decide) (by decide) (by decide) (by decide) (fun _ => rfl) 0 rfl rfl rfl k_454 mX0_readNumber ⟨rfl, rfl⟩ ⟨Nat.le_of_ble_eq_true rfl, Nat.le_of_ble_eq_true rfl⟩ rfl rfl (Nat.le_of_ble_eq_true rfl) dX0_readSitter_46 ⟨Nat.zero_le _, Nat.zero_le _⟩ (fun H6 locs6 hP hD hS6 => ?_)
    have hP6 : va_P D cls (wX0 q a y46.2 (b 99) ++ wX3 q b v5_) H6 := hP
    have hD6 : va_D (va_A (wX0 q a v (b 99) ++ wX3 q b u) s.heap.size) (wX0 q a y46.2 (b 99) ++ wX3 q b v5_) := hD
    clear hP hD hP5 hD5 hS5
    refine lv_if_ne (tgt := 54) hx hb dX0_readSitter_49 (by decide) (fun c49 => ?_) (fun c49 => ?_)
    · replace hm := tn hm c49
      refine lv_aload_n hx hb dX0_readSitter_54 rfl (lv_at hl1 1 rfl) ?_
      refine va_get (D := D) (ci := 0) (v := .ref (b 99)) (C := RX0) (T := TX0) (N := 13) hx hb hW iX0 hown hK hP6 0 rfl rfl 2 (by decide) (hW _ k_177) (fun _ h => h) rfl dX0_readSitter_55 ?_
      refine va_get (D := D) (ci := 3) (v := .ref (b 10)) (C := RX3) (T := TX3) (N := 17) hx hb hW iX3 hown hK hP6 2 rfl rfl 10 (by decide) (hW _ k_114) (fun _ h => h) rfl dX0_readSitter_58 ?_
      refine lv_iload_n hx hb dX0_readSitter_61 rfl (lv_at hl1 0 rfl) ?_
      refine lv_aload_n hx hb dX0_readSitter_62 rfl (lv_at hl1 1 rfl) ?_
      refine va_get (D := D) (ci := 0) (v := .int (y46.2 0 8)) (C := RX0) (T := TX0) (N := 13) hx hb hW iX0 hown hK hP6 0 rfl rfl 8 (by decide) (hW _ k_185) (fun _ h => h) rfl dX0_readSitter_63 ?_
      obtain ⟨h7, hm⟩ := ckd hm
      refine va_iast (f := (v5_ 10)) hx hb hK hP6 hD6 hS6 7 0 rfl rfl (inB_vp h7) dX0_readSitter_66 (fun H8 locs8 hP hD hS8 => ?_)
      obtain ⟨v8_, e8, hm⟩ := ltd hm
      have hP8 : va_P D cls (wX0 q a y46.2 (b 99) ++ wX3 q b v8_) H8 := by rw [e8]; exact hP
      have hD8 : va_D (va_A (wX0 q a v (b 99) ++ wX3 q b u) s.heap.size) (wX0 q a y46.2 (b 99) ++ wX3 q b v8_) := by rw [e8]; exact hD
      clear hP hD hP6 hD6 hS6
      refine lv_aload_n hx hb dX0_readSitter_67 rfl (lv_at hl1 1 rfl) ?_
      refine lv_iconst (v := (0 : Int32)) hx hb dX0_readSitter_68 (by decide) ?_
      refine lv_bipush (v := (9 : Int32)) hx hb dX0_readSitter_69 (by decide) ?_
      obtain ⟨y71, hy71, hm⟩ := bn hm
      refine cVWi (As := [.int (0 : Int32), .int (9 : Int32)]) (rest := []) (Wn := fun (uu : SV) => wX0 q a uu (b 99) ++ wX3 q b v8_) X hP8 hD8 hS8 (fun _ h => Or.inr h) hl1.1 (c_X0_readNumber l D q H8.size a y46.2 b v8_ (0 : Int32) (9 : Int32) y71 hy71) [0, 1, 2, 3, 4, 5, 6, 7, 8, 9, 10, 11, 12, 13] [] [0, 1, 2, 3, 4, 5, 6, 7, 8, 9, 10, 11, 12, 13] rfl (Wr := []) rfl (by decide) (by decide) (by decide) (by decide) (fun _ => rfl) 0 rfl rfl rfl k_454 mX0_readNumber ⟨rfl, rfl⟩ ⟨Nat.le_of_ble_eq_true rfl, Nat.le_of_ble_eq_true rfl⟩ rfl rfl (Nat.le_of_ble_eq_true rfl) dX0_readSitter_71 ⟨Nat.zero_le _, Nat.zero_le _⟩ (fun H9 locs9 hP hD hS9 => ?_)
      have hP9 : va_P D cls (wX0 q a y71.2 (b 99) ++ wX3 q b v8_) H9 := hP
      have hD9 : va_D (va_A (wX0 q a v (b 99) ++ wX3 q b u) s.heap.size) (wX0 q a y71.2 (b 99) ++ wX3 q b v8_) := hD
      clear hP hD hP8 hD8 hS8
      refine lv_if_ne (tgt := 79) hx hb dX0_readSitter_74 (by decide) (fun c74 => ?_) (fun c74 => ?_)
      · replace hm := tn hm c74
        refine lv_aload_n hx hb dX0_readSitter_79 rfl (lv_at hl1 1 rfl) ?_
        refine va_get (D := D) (ci := 0) (v := .ref (b 99)) (C := RX0) (T := TX0) (N := 13) hx hb hW iX0 hown hK hP9 0 rfl rfl 2 (by decide) (hW _ k_177) (fun _ h => h) rfl dX0_readSitter_80 ?_
        refine va_get (D := D) (ci := 3) (v := .ref (b 11)) (C := RX3) (T := TX3) (N := 17) hx hb hW iX3 hown hK hP9 2 rfl rfl 11 (by decide) (hW _ k_118) (fun _ h => h) rfl dX0_readSitter_83 ?_
        refine lv_iload_n hx hb dX0_readSitter_86 rfl (lv_at hl1 0 rfl) ?_
        refine lv_aload_n hx hb dX0_readSitter_87 rfl (lv_at hl1 1 rfl) ?_
        refine va_get (D := D) (ci := 0) (v := .int (y71.2 0 8)) (C := RX0) (T := TX0) (N := 13) hx hb hW iX0 hown hK hP9 0 rfl rfl 8 (by decide) (hW _ k_185) (fun _ h => h) rfl dX0_readSitter_88 ?_
        obtain ⟨h10, hm⟩ := ckd hm
        refine va_iast (f := (v8_ 11)) hx hb hK hP9 hD9 hS9 8 0 rfl rfl (inB_vp h10) dX0_readSitter_91 (fun H11 locs11 hP hD hS11 => ?_)
        obtain ⟨v11_, e11, hm⟩ := ltd hm
        have hP11 : va_P D cls (wX0 q a y71.2 (b 99) ++ wX3 q b v11_) H11 := by rw [e11]; exact hP
        have hD11 : va_D (va_A (wX0 q a v (b 99) ++ wX3 q b u) s.heap.size) (wX0 q a y71.2 (b 99) ++ wX3 q b v11_) := by rw [e11]; exact hD
        clear hP hD hP9 hD9 hS9
        refine lv_aload_n hx hb dX0_readSitter_92 rfl (lv_at hl1 1 rfl) ?_
        refine va_get (D := D) (ci := 0) (v := .ref (b 99)) (C := RX0) (T := TX0) (N := 13) hx hb hW iX0 hown hK hP11 0 rfl rfl 2 (by decide) (hW _ k_177) (fun _ h => h) rfl dX0_readSitter_93 ?_
        refine va_get (D := D) (ci := 3) (v := .ref (b 12)) (C := RX3) (T := TX3) (N := 17) hx hb hW iX3 hown hK hP11 2 rfl rfl 12 (by decide) (hW _ k_121) (fun _ h => h) rfl dX0_readSitter_96 ?_
        refine lv_iload_n hx hb dX0_readSitter_99 rfl (lv_at hl1 0 rfl) ?_
        refine lv_aload_n hx hb dX0_readSitter_100 rfl (lv_at hl1 1 rfl) ?_
        refine lv_bipush (v := (6 : Int32)) hx hb dX0_readSitter_101 (by decide) ?_
        obtain ⟨y103, hy103, hm⟩ := bn hm
        refine cVWi (As := [.int (6 : Int32)]) (rest := [.int (u 0 1), .ref (b 12)]) (Wn := fun (uu : SV) => wX0 q a uu (b 99) ++ wX3 q b v11_) X hP11 hD11 hS11 (fun _ h => Or.inr h) hl1.1 (c_X0_readBits l D q H11.size a y71.2 b v11_ (6 : Int32) y103 hy103) [0, 1, 2, 3, 4, 5, 6, 7, 8, 9, 10, 11, 12, 13] [] [0, 1, 2, 3, 4, 5, 6, 7, 8, 9, 10, 11, 12, 13] rfl (Wr := []) rfl (by decide) (by decide) (by decide) (by decide) (fun _ => rfl) 0 rfl rfl rfl k_462 mX0_readBits ⟨rfl, rfl⟩ ⟨Nat.le_of_ble_eq_true rfl, Nat.le_of_ble_eq_true rfl⟩ rfl rfl (Nat.le_of_ble_eq_true rfl) dX0_readSitter_103 ⟨Nat.zero_le _, Nat.zero_le _⟩ (fun H12 locs12 hP hD hS12 => ?_)
        have hP12 : va_P D cls (wX0 q a y103.2 (b 99) ++ wX3 q b v11_) H12 := hP
        have hD12 : va_D (va_A (wX0 q a v (b 99) ++ wX3 q b u) s.heap.size) (wX0 q a y103.2 (b 99) ++ wX3 q b v11_) := hD
        clear hP hD hP11 hD11 hS11
        obtain ⟨h13, hm⟩ := ckd hm
        refine va_iast (f := (v11_ 12)) hx hb hK hP12 hD12 hS12 9 0 rfl rfl (inB_vp h13) dX0_readSitter_106 (fun H14 locs14 hP hD hS14 => ?_)
        obtain ⟨v14_, e14, hm⟩ := ltd hm
        have hP14 : va_P D cls (wX0 q a y103.2 (b 99) ++ wX3 q b v14_) H14 := by rw [e14]; exact hP
        have hD14 : va_D (va_A (wX0 q a v (b 99) ++ wX3 q b u) s.heap.size) (wX0 q a y103.2 (b 99) ++ wX3 q b v14_) := by rw [e14]; exact hD
        clear hP hD hP12 hD12 hS12
        refine lv_aload_n hx hb dX0_readSitter_107 rfl (lv_at hl1 1 rfl) ?_
        refine va_get (D := D) (ci := 0) (v := .ref (b 99)) (C := RX0) (T := TX0) (N := 13) hx hb hW iX0 hown hK hP14 0 rfl rfl 2 (by decide) (hW _ k_177) (fun _ h => h) rfl dX0_readSitter_108 ?_
        refine lv_dup hx hb dX0_readSitter_111 rfl ?_
        refine va_get (D := D) (ci := 3) (v := .int (v14_ 0 1)) (C := RX3) (T := TX3) (N := 17) hx hb hW iX3 hown hK hP14 2 rfl rfl 1 (by decide) (hW _ k_88) (fun _ h => h) rfl dX0_readSitter_112 ?_
        refine lv_iconst (v := (1 : Int32)) hx hb dX0_readSitter_115 (by decide) ?_
        refine lv_iadd hx hb dX0_readSitter_116 ?_
        refine va_put (D := D) (ci := 3) (v := .int ((v14_ 0 1) + (1 : Int32))) (ty := .int) (C := RX3) (T := TX3) (N := 17) hx hb hW iX3 tyX3 tyX3_ok nmX3 hown hK hP14 hD14 hS14 2 rfl rfl 1 (by decide) (hW _ k_88) (fun _ h => h) rfl (by decide +kernel) rfl rfl (Nat.le_of_ble_eq_true rfl) dX0_readSitter_117 (fun H15 locs15 hP hD hS15 => ?_)
        obtain ⟨v15_, e15, hm⟩ := ltd hm
        have hP15 : va_P D cls (wX0 q a y103.2 (b 99) ++ wX3 q b v15_) H15 := by rw [e15]; exact hP
        have hD15 : va_D (va_A (wX0 q a v (b 99) ++ wX3 q b u) s.heap.size) (wX0 q a y103.2 (b 99) ++ wX3 q b v15_) := by rw [e15]; exact hD
        clear hP hD hP14 hD14 hS14
        refine lv_aload_n hx hb dX0_readSitter_120 rfl (lv_at hl1 1 rfl) ?_
        refine va_get (D := D) (ci := 0) (v := .int (y103.2 0 3)) (C := RX0) (T := TX0) (N := 13) hx hb hW iX0 hown hK hP15 0 rfl rfl 3 (by decide) (hW _ k_179) (fun _ h => h) rfl dX0_readSitter_121 ?_
        refine lv_if_ne (tgt := 131) hx hb dX0_readSitter_124 (by decide) (fun c124 => ?_) (fun c124 => ?_)
        · replace hm := tn hm c124
          refine lv_iconst (v := (0 : Int32)) hx hb dX0_readSitter_131 (by decide) ?_
          exact eWz (Wf := fun (uu : SV × SV) => wX0 q a uu.1 (b 99) ++ wX3 q b uu.2) (u := (y103.2, v15_)) X hr hlocks rfl hP15 hD15 hS15 hm dX0_readSitter_132
        · replace hm := tp hm c124
          refine lv_iconst (v := (1 : Int32)) hx hb dX0_readSitter_127 (by decide) ?_
          refine lv_goto (tgt := 132) hx hb dX0_readSitter_128 (by decide) ?_
          exact eWz (Wf := fun (uu : SV × SV) => wX0 q a uu.1 (b 99) ++ wX3 q b uu.2) (u := (y103.2, v15_)) X hr hlocks rfl hP15 hD15 hS15 hm dX0_readSitter_132
      · replace hm := tp hm c74
        refine lv_iconst (v := (0 : Int32)) hx hb dX0_readSitter_77 (by decide) ?_
        exact eWz (Wf := fun (uu : SV × SV) => wX0 q a uu.1 (b 99) ++ wX3 q b uu.2) (u := (y71.2, v8_)) X hr hlocks rfl hP9 hD9 hS9 hm dX0_readSitter_78
    · replace hm := tp hm c49
      refine lv_iconst (v := (0 : Int32)) hx hb dX0_readSitter_52 (by decide) ?_
      exact eWz (Wf := fun (uu : SV × SV) => wX0 q a uu.1 (b 99) ++ wX3 q b uu.2) (u := (y46.2, v5_)) X hr hlocks rfl hP6 hD6 hS6 hm dX0_readSitter_53
  · replace hm := tn hm c10
    refine lv_aload_n hx hb dX0_readSitter_13 rfl (lv_at hl1 1 rfl) ?_
    refine lv_iconst (v := (5 : Int32)) hx hb dX0_readSitter_14 (by decide) ?_
    refine lv_aload_n hx hb dX0_readSitter_15 rfl (lv_at hl1 1 rfl) ?_
    refine va_get (D := D) (ci := 0) (v := .int (v 0 6)) (C := RX0) (T := TX0) (N := 13) hx hb hW iX0 hown hK hP0 0 rfl rfl 6 (by decide) (hW _ k_183) (fun _ h => h) rfl dX0_readSitter_16 ?_
    obtain ⟨y19, hy19, hm⟩ := bn hm
    refine cVWi (As := [.int (5 : Int32), .int (v 0 6)]) (rest := []) (Wn := fun (uu : SV) => wX0 q a uu (b 99) ++ wX3 q b u) X hP0 hD0 hS0 (fun _ h => Or.inr h) hl1.1 (c_X0_refuse l D q s.heap.size a v b u (5 : Int32) (v 0 6) y19 hy19) [0, 1, 2, 3, 4, 5, 6, 7, 8, 9, 10, 11, 12, 13] [] [0, 1, 2, 3, 4, 5, 6, 7, 8, 9, 10, 11, 12, 13] rfl (Wr := []) rfl (by decide) (by decide) (by decide) (by decide) (fun _ => rfl) 0 rfl rfl rfl k_374 mX0_refuse ⟨rfl, rfl⟩ ⟨Nat.le_of_ble_eq_true rfl, Nat.le_of_ble_eq_true rfl⟩ rfl rfl (Nat.le_of_ble_eq_true rfl) dX0_readSitter_19 ⟨Nat.zero_le _, Nat.zero_le _⟩ (fun H16 locs16 hP hD hS16 => ?_)
    have hP16 : va_P D cls (wX0 q a y19.2 (b 99) ++ wX3 q b u) H16 := hP
    have hD16 : va_D (va_A (wX0 q a v (b 99) ++ wX3 q b u) s.heap.size) (wX0 q a y19.2 (b 99) ++ wX3 q b u) := hD
    clear hP hD hP0 hD0 hS0
    obtain ⟨hz0, hm⟩ := ckd hm
    have hnz := nz_nar hz0
    exact eWz (Wf := fun (uu : SV × SV) => wX0 q a uu.1 (b 99) ++ wX3 q b uu.2) (u := (y19.2, u)) X hr hlocks hnz hP16 hD16 hS16 hm dX0_readSitter_22
noncomputable def m_X0_readSign (v : SV) (u : SV) : Option (Int32 × SV) :=
  (m_X0_readToken v u).bind (fun y1 => (if y1.1 = 0 then some ((0 : Int32), y1.2) else (if (y1.2 0 5) = (3 : Int32) then some ((1 : Int32), y1.2) else (m_X0_refuse y1.2 u (2 : Int32) (y1.2 0 6)).bind (fun y21 => (if y21.1 = 0 then some ((0 : Int32), y21.2) else some ((1 : Int32), y21.2))))))
set_option maxHeartbeats 4000000 in
set_option maxRecDepth 100000 in
theorem c_X0_readSign (l : Launch) (D : va_G) (q : Nat → ClassId) (sz : Nat) (a : Nat → Nat) (v : SV) (b : Nat → Nat) (u : SV) (res : Int32 × SV) (hm : m_X0_readSign v u = some res) : Met l yX0_readSign (mw yX0_readSign cX0_readSign 1 (some .boolean)) ({ frames := 2, cells := 0, slots := 0, locals := 44 } : Room) (pcW D q (wX0 q a v (b 99) ++ wX3 q b u) sz [.ref (a 99)]) (va_Qi (fun r w => r = res.1 ∧ w = res.2) (bW D q (wX0 q a v (b 99) ++ wX3 q b u) sz (fun (uu : SV) => wX0 q a uu (b 99) ++ wX3 q b u)) (va_A (wX0 q a v (b 99) ++ wX3 q b u) sz)) 0 0 (va_A (wX0 q a v (b 99) ++ wX3 q b u) sz) := by
  refine Met.ofW (cc := cX0_readSign) (maxL := 1) (ret := (some .boolean)) (by decide) rfl ?_
  intro p e s m args below meth c s₁ B hml hv
  obtain ⟨rfl, hsz, hP0, hK, hD0⟩ := hv
  have hx := B.exec
  have hb := B.bytes
  have hr := B.returns
  have hW := mw_ws (atoms_spec (ws := mw yX0_readSign cX0_readSign 1 (some .boolean)) B.pre)
  have hown : s.vm.findClass RX0 = some m.cls := findClass_of_methodNamed B.named
  have hlocks := B.notSynchronized
  have X : Cx p s m [.ref (a 99)].toArray c cX0_readSign 1 RX0 D q := ⟨hx, hb, hml, hown, hW, hK⟩
  subst hsz
  replace hD0 := hD0.self (sz := s.heap.size)
  have hS0 : va_S (va_A (wX0 q a v (b 99) ++ wX3 q b u) s.heap.size) s.heap s.heap [] := va_S.rf
  have hl0 := lv_entry ([.ref (a 99)]) (n := 1) (Nat.le_of_ble_eq_true rfl)
  rw [lg_entry_eq]
  generalize (lg_sl ([.ref (a 99)]) ++ List.replicate (1 - (lg_sl ([.ref (a 99)])).length) Slot.unset).toArray = ls0 at hl0 ⊢
  have hl0 : lv_has ls0 1 [(0, .ref (a 99))] := hl0
  unfold m_X0_readSign at hm
  refine lv_aload_n hx hb dX0_readSign_0 rfl (lv_at hl0 0 rfl) ?_
  obtain ⟨y1, hy1, hm⟩ := bn hm
  refine cVWi (As := []) (rest := []) (Wn := fun (uu : SV) => wX0 q a uu (b 99) ++ wX3 q b u) X hP0 hD0 hS0 (fun _ h => Or.inr h) hl0.1 (c_X0_readToken l D q s.heap.size a v b u y1 hy1) [0, 1, 2, 3, 4, 5, 6, 7, 8, 9, 10, 11, 12, 13] [] [0, 1, 2, 3, 4, 5, 6, 7, 8, 9, 10, 11, 12, 13] rfl (Wr := []) rfl (by decide) (by decide) (by decide) (by decide) (fun _ => rfl) 0 rfl rfl rfl k_366 mX0_readToken ⟨rfl, rfl⟩ ⟨Nat.le_of_ble_eq_true rfl, Nat.le_of_ble_eq_true rfl⟩ rfl rfl (Nat.le_of_ble_eq_true rfl) dX0_readSign_1 ⟨Nat.zero_le _, Nat.zero_le _⟩ (fun H1 locs1 hP hD hS1 => ?_)
  have hP1 : va_P D cls (wX0 q a y1.2 (b 99) ++ wX3 q b u) H1 := hP
  have hD1 : va_D (va_A (wX0 q a v (b 99) ++ wX3 q b u) s.heap.size) (wX0 q a y1.2 (b 99) ++ wX3 q b u) := hD
  clear hP hD hP0 hD0 hS0
  refine lv_if_eq (tgt := 31) hx hb dX0_readSign_4 (by decide) (fun c4 => ?_) (fun c4 => ?_)
  · replace hm := tp hm c4
    refine lv_iconst (v := (0 : Int32)) hx hb dX0_readSign_31 (by decide) ?_
    exact eWz (Wf := fun (uu : SV) => wX0 q a uu (b 99) ++ wX3 q b u) (u := y1.2) X hr hlocks rfl hP1 hD1 hS1 hm dX0_readSign_32
  · replace hm := tn hm c4
    refine lv_aload_n hx hb dX0_readSign_7 rfl (lv_at hl0 0 rfl) ?_
    refine va_get (D := D) (ci := 0) (v := .int (y1.2 0 5)) (C := RX0) (T := TX0) (N := 13) hx hb hW iX0 hown hK hP1 0 rfl rfl 5 (by decide) (hW _ k_182) (fun _ h => h) rfl dX0_readSign_8 ?_
    refine lv_iconst (v := (3 : Int32)) hx hb dX0_readSign_11 (by decide) ?_
    refine lv_icmp_eq (tgt := 27) hx hb dX0_readSign_12 (by decide) (fun c12 => ?_) (fun c12 => ?_)
    · replace hm := tp hm c12
      refine lv_iconst (v := (1 : Int32)) hx hb dX0_readSign_27 (by decide) ?_
      refine lv_goto (tgt := 32) hx hb dX0_readSign_28 (by decide) ?_
      exact eWz (Wf := fun (uu : SV) => wX0 q a uu (b 99) ++ wX3 q b u) (u := y1.2) X hr hlocks rfl hP1 hD1 hS1 hm dX0_readSign_32
    · replace hm := tn hm c12
      refine lv_aload_n hx hb dX0_readSign_15 rfl (lv_at hl0 0 rfl) ?_
      refine lv_iconst (v := (2 : Int32)) hx hb dX0_readSign_16 (by decide) ?_
      refine lv_aload_n hx hb dX0_readSign_17 rfl (lv_at hl0 0 rfl) ?_
      refine va_get (D := D) (ci := 0) (v := .int (y1.2 0 6)) (C := RX0) (T := TX0) (N := 13) hx hb hW iX0 hown hK hP1 0 rfl rfl 6 (by decide) (hW _ k_183) (fun _ h => h) rfl dX0_readSign_18 ?_
      obtain ⟨y21, hy21, hm⟩ := bn hm
      refine cVWi (As := [.int (2 : Int32), .int (y1.2 0 6)]) (rest := []) (Wn := fun (uu : SV) => wX0 q a uu (b 99) ++ wX3 q b u) X hP1 hD1 hS1 (fun _ h => Or.inr h) hl0.1 (c_X0_refuse l D q H1.size a y1.2 b u (2 : Int32) (y1.2 0 6) y21 hy21) [0, 1, 2, 3, 4, 5, 6, 7, 8, 9, 10, 11, 12, 13] [] [0, 1, 2, 3, 4, 5, 6, 7, 8, 9, 10, 11, 12, 13] rfl (Wr := []) rfl (by decide) (by decide) (by decide) (by decide) (fun _ => rfl) 0 rfl rfl rfl k_374 mX0_refuse ⟨rfl, rfl⟩ ⟨Nat.le_of_ble_eq_true rfl, Nat.le_of_ble_eq_true rfl⟩ rfl rfl (Nat.le_of_ble_eq_true rfl) dX0_readSign_21 ⟨Nat.zero_le _, Nat.zero_le _⟩ (fun H2 locs2 hP hD hS2 => ?_)
      have hP2 : va_P D cls (wX0 q a y21.2 (b 99) ++ wX3 q b u) H2 := hP
      have hD2 : va_D (va_A (wX0 q a v (b 99) ++ wX3 q b u) s.heap.size) (wX0 q a y21.2 (b 99) ++ wX3 q b u) := hD
      clear hP hD hP1 hD1 hS1
      refine lv_if_eq (tgt := 31) hx hb dX0_readSign_24 (by decide) (fun c24 => ?_) (fun c24 => ?_)
      · replace hm := tp hm c24
        refine lv_iconst (v := (0 : Int32)) hx hb dX0_readSign_31 (by decide) ?_
        exact eWz (Wf := fun (uu : SV) => wX0 q a uu (b 99) ++ wX3 q b u) (u := y21.2) X hr hlocks rfl hP2 hD2 hS2 hm dX0_readSign_32
      · replace hm := tn hm c24
        refine lv_iconst (v := (1 : Int32)) hx hb dX0_readSign_27 (by decide) ?_
        refine lv_goto (tgt := 32) hx hb dX0_readSign_28 (by decide) ?_
        exact eWz (Wf := fun (uu : SV) => wX0 q a uu (b 99) ++ wX3 q b u) (u := y21.2) X hr hlocks rfl hP2 hD2 hS2 hm dX0_readSign_32
noncomputable def m_X0_readParts (v : SV) (u : SV) : Option (Int32 × SV × SV) :=
  (if (v 0 9) = 0 then lett (up2 v 0 9 (1 : Int32)) (fun v1_ => (m_X0_readNumber v1_ u (2 : Int32) (6 : Int32)).bind (fun y26 => (if y26.1 = 0 then some ((0 : Int32), y26.2, u) else lett (up2 u 0 0 (y26.2 0 8)) (fun v3_ => (m_X0_readSign y26.2 v3_).bind (fun y46 => ck (nzB y46.1) (some (y46.1, y46.2, v3_))))))) else (m_X0_refuse v u (4 : Int32) (v 0 6)).bind (fun y13 => ck (nzB y13.1) (some (y13.1, y13.2, u))))
set_option maxHeartbeats 4000000 in
set_option maxRecDepth 100000 in
theorem c_X0_readParts (l : Launch) (D : va_G) (q : Nat → ClassId) (sz : Nat) (a : Nat → Nat) (v : SV) (b : Nat → Nat) (u : SV) (res : Int32 × SV × SV) (hm : m_X0_readParts v u = some res) : Met l yX0_readParts (mw yX0_readParts cX0_readParts 1 (some .boolean)) ({ frames := 3, cells := 0, slots := 0, locals := 66 } : Room) (pcW D q (wX0 q a v (b 99) ++ wX3 q b u) sz [.ref (a 99)]) (va_Qi (fun r w => r = res.1 ∧ w = res.2) (bW D q (wX0 q a v (b 99) ++ wX3 q b u) sz (fun (uu : SV × SV) => wX0 q a uu.1 (b 99) ++ wX3 q b uu.2)) (va_A (wX0 q a v (b 99) ++ wX3 q b u) sz)) 0 0 (va_A (wX0 q a v (b 99) ++ wX3 q b u) sz) := by
  refine Met.ofW (cc := cX0_readParts) (maxL := 1) (ret := (some .boolean)) (by decide) rfl ?_
  intro p e s m args below meth c s₁ B hml hv
  obtain ⟨rfl, hsz, hP0, hK, hD0⟩ := hv
  have hx := B.exec
  have hb := B.bytes
  have hr := B.returns
  have hW := mw_ws (atoms_spec (ws := mw yX0_readParts cX0_readParts 1 (some .boolean)) B.pre)
  have hown : s.vm.findClass RX0 = some m.cls := findClass_of_methodNamed B.named
  have hlocks := B.notSynchronized
  have X : Cx p s m [.ref (a 99)].toArray c cX0_readParts 1 RX0 D q := ⟨hx, hb, hml, hown, hW, hK⟩
  subst hsz
  replace hD0 := hD0.self (sz := s.heap.size)
  have hS0 : va_S (va_A (wX0 q a v (b 99) ++ wX3 q b u) s.heap.size) s.heap s.heap [] := va_S.rf
  have hl0 := lv_entry ([.ref (a 99)]) (n := 1) (Nat.le_of_ble_eq_true rfl)
  rw [lg_entry_eq]
  generalize (lg_sl ([.ref (a 99)]) ++ List.replicate (1 - (lg_sl ([.ref (a 99)])).length) Slot.unset).toArray = ls0 at hl0 ⊢
  have hl0 : lv_has ls0 1 [(0, .ref (a 99))] := hl0
  unfold m_X0_readParts at hm
  refine lv_aload_n hx hb dX0_readParts_0 rfl (lv_at hl0 0 rfl) ?_
  refine va_get (D := D) (ci := 0) (v := .int (v 0 9)) (C := RX0) (T := TX0) (N := 13) hx hb hW iX0 hown hK hP0 0 rfl rfl 9 (by decide) (hW _ k_186) (fun _ h => h) rfl dX0_readParts_1 ?_
  refine lv_if_eq (tgt := 17) hx hb dX0_readParts_4 (by decide) (fun c4 => ?_) (fun c4 => ?_)
  · replace hm := tp hm c4
    refine lv_aload_n hx hb dX0_readParts_17 rfl (lv_at hl0 0 rfl) ?_
    refine lv_iconst (v := (1 : Int32)) hx hb dX0_readParts_18 (by decide) ?_
    refine va_put (D := D) (ci := 0) (v := .int (1 : Int32)) (ty := .boolean) (C := RX0) (T := TX0) (N := 13) hx hb hW iX0 tyX0 tyX0_ok nmX0 hown hK hP0 hD0 hS0 0 rfl rfl 9 (by decide) (hW _ k_186) (fun _ h => h) rfl (by decide +kernel) rfl rfl (Nat.le_of_ble_eq_true rfl) dX0_readParts_19 (fun H1 locs1 hP hD hS1 => ?_)
    obtain ⟨v1_, e1, hm⟩ := ltd hm
    have hP1 : va_P D cls (wX0 q a v1_ (b 99) ++ wX3 q b u) H1 := by rw [e1]; exact hP
    have hD1 : va_D (va_A (wX0 q a v (b 99) ++ wX3 q b u) s.heap.size) (wX0 q a v1_ (b 99) ++ wX3 q b u) := by rw [e1]; exact hD
    clear hP hD hP0 hD0 hS0
    refine lv_aload_n hx hb dX0_readParts_22 rfl (lv_at hl0 0 rfl) ?_
    refine lv_iconst (v := (2 : Int32)) hx hb dX0_readParts_23 (by decide) ?_
    refine lv_bipush (v := (6 : Int32)) hx hb dX0_readParts_24 (by decide) ?_
    obtain ⟨y26, hy26, hm⟩ := bn hm
    refine cVWi (As := [.int (2 : Int32), .int (6 : Int32)]) (rest := []) (Wn := fun (uu : SV) => wX0 q a uu (b 99) ++ wX3 q b u) X hP1 hD1 hS1 (fun _ h => Or.inr h) hl0.1 (c_X0_readNumber l D q H1.size a v1_ b u (2 : Int32) (6 : Int32) y26 hy26) [0, 1, 2, 3, 4, 5, 6, 7, 8, 9, 10, 11, 12, 13] [] [0, 1, 2, 3, 4, 5, 6, 7, 8, 9, 10, 11, 12, 13] rfl (Wr := []) rfl (by decide) (by decide) (by decide) (by decide) (fun _ => rfl) 0 rfl rfl rfl k_454 mX0_readNumber ⟨rfl, rfl⟩ ⟨Nat.le_of_ble_eq_true rfl, Nat.le_of_ble_eq_true rfl⟩ rfl rfl (Nat.le_of_ble_eq_true rfl) dX0_readParts_26 ⟨Nat.zero_le _, Nat.zero_le _⟩ (fun H2 locs2 hP hD hS2 => ?_)
    have hP2 : va_P D cls (wX0 q a y26.2 (b 99) ++ wX3 q b u) H2 := hP
    have hD2 : va_D (va_A (wX0 q a v (b 99) ++ wX3 q b u) s.heap.size) (wX0 q a y26.2 (b 99) ++ wX3 q b u) := hD
    clear hP hD hP1 hD1 hS1
    refine lv_if_ne (tgt := 34) hx hb dX0_readParts_29 (by decide) (fun c29 => ?_) (fun c29 => ?_)
    · replace hm := tn hm c29
      refine lv_aload_n hx hb dX0_readParts_34 rfl (lv_at hl0 0 rfl) ?_
      refine va_get (D := D) (ci := 0) (v := .ref (b 99)) (C := RX0) (T := TX0) (N := 13) hx hb hW iX0 hown hK hP2 0 rfl rfl 2 (by decide) (hW _ k_177) (fun _ h => h) rfl dX0_readParts_35 ?_
      refine lv_aload_n hx hb dX0_readParts_38 rfl (lv_at hl0 0 rfl) ?_
      refine va_get (D := D) (ci := 0) (v := .int (y26.2 0 8)) (C := RX0) (T := TX0) (N := 13) hx hb hW iX0 hown hK hP2 0 rfl rfl 8 (by decide) (hW _ k_185) (fun _ h => h) rfl dX0_readParts_39 ?_
      refine va_put (D := D) (ci := 3) (v := .int (y26.2 0 8)) (ty := .int) (C := RX3) (T := TX3) (N := 17) hx hb hW iX3 tyX3 tyX3_ok nmX3 hown hK hP2 hD2 hS2 2 rfl rfl 0 (by decide) (hW _ k_84) (fun _ h => h) rfl (by decide +kernel) rfl rfl (Nat.le_of_ble_eq_true rfl) dX0_readParts_42 (fun H3 locs3 hP hD hS3 => ?_)
      obtain ⟨v3_, e3, hm⟩ := ltd hm
      have hP3 : va_P D cls (wX0 q a y26.2 (b 99) ++ wX3 q b v3_) H3 := by rw [e3]; exact hP
      have hD3 : va_D (va_A (wX0 q a v (b 99) ++ wX3 q b u) s.heap.size) (wX0 q a y26.2 (b 99) ++ wX3 q b v3_) := by rw [e3]; exact hD
      clear hP hD hP2 hD2 hS2
      refine lv_aload_n hx hb dX0_readParts_45 rfl (lv_at hl0 0 rfl) ?_
      obtain ⟨y46, hy46, hm⟩ := bn hm
      refine cVWi (As := []) (rest := []) (Wn := fun (uu : SV) => wX0 q a uu (b 99) ++ wX3 q b v3_) X hP3 hD3 hS3 (fun _ h => Or.inr h) hl0.1 (c_X0_readSign l D q H3.size a y26.2 b v3_ y46 hy46) [0, 1, 2, 3, 4, 5, 6, 7, 8, 9, 10, 11, 12, 13] [] [0, 1, 2, 3, 4, 5, 6, 7, 8, 9, 10, 11, 12, 13] rfl (Wr := []) rfl (by decide) (by decide) (by decide) (by decide) (fun _ => rfl) 0 rfl rfl rfl k_470 mX0_readSign ⟨rfl, rfl⟩ ⟨Nat.le_of_ble_eq_true rfl, Nat.le_of_ble_eq_true rfl⟩ rfl rfl (Nat.le_of_ble_eq_true rfl) dX0_readParts_46 ⟨Nat.zero_le _, Nat.zero_le _⟩ (fun H4 locs4 hP hD hS4 => ?_)
      have hP4 : va_P D cls (wX0 q a y46.2 (b 99) ++ wX3 q b v3_) H4 := hP
      have hD4 : va_D (va_A (wX0 q a v (b 99) ++ wX3 q b u) s.heap.size) (wX0 q a y46.2 (b 99) ++ wX3 q b v3_) := hD
      clear hP hD hP3 hD3 hS3
      obtain ⟨hz0, hm⟩ := ckd hm
      have hnz := nz_nar hz0
      exact eWz (Wf := fun (uu : SV × SV) => wX0 q a uu.1 (b 99) ++ wX3 q b uu.2) (u := (y46.2, v3_)) X hr hlocks hnz hP4 hD4 hS4 hm dX0_readParts_49
    · replace hm := tp hm c29
      refine lv_iconst (v := (0 : Int32)) hx hb dX0_readParts_32 (by decide) ?_
      exact eWz (Wf := fun (uu : SV × SV) => wX0 q a uu.1 (b 99) ++ wX3 q b uu.2) (u := (y26.2, u)) X hr hlocks rfl hP2 hD2 hS2 hm dX0_readParts_33
  · replace hm := tn hm c4
    refine lv_aload_n hx hb dX0_readParts_7 rfl (lv_at hl0 0 rfl) ?_
    refine lv_iconst (v := (4 : Int32)) hx hb dX0_readParts_8 (by decide) ?_
    refine lv_aload_n hx hb dX0_readParts_9 rfl (lv_at hl0 0 rfl) ?_
    refine va_get (D := D) (ci := 0) (v := .int (v 0 6)) (C := RX0) (T := TX0) (N := 13) hx hb hW iX0 hown hK hP0 0 rfl rfl 6 (by decide) (hW _ k_183) (fun _ h => h) rfl dX0_readParts_10 ?_
    obtain ⟨y13, hy13, hm⟩ := bn hm
    refine cVWi (As := [.int (4 : Int32), .int (v 0 6)]) (rest := []) (Wn := fun (uu : SV) => wX0 q a uu (b 99) ++ wX3 q b u) X hP0 hD0 hS0 (fun _ h => Or.inr h) hl0.1 (c_X0_refuse l D q s.heap.size a v b u (4 : Int32) (v 0 6) y13 hy13) [0, 1, 2, 3, 4, 5, 6, 7, 8, 9, 10, 11, 12, 13] [] [0, 1, 2, 3, 4, 5, 6, 7, 8, 9, 10, 11, 12, 13] rfl (Wr := []) rfl (by decide) (by decide) (by decide) (by decide) (fun _ => rfl) 0 rfl rfl rfl k_374 mX0_refuse ⟨rfl, rfl⟩ ⟨Nat.le_of_ble_eq_true rfl, Nat.le_of_ble_eq_true rfl⟩ rfl rfl (Nat.le_of_ble_eq_true rfl) dX0_readParts_13 ⟨Nat.zero_le _, Nat.zero_le _⟩ (fun H5 locs5 hP hD hS5 => ?_)
    have hP5 : va_P D cls (wX0 q a y13.2 (b 99) ++ wX3 q b u) H5 := hP
    have hD5 : va_D (va_A (wX0 q a v (b 99) ++ wX3 q b u) s.heap.size) (wX0 q a y13.2 (b 99) ++ wX3 q b u) := hD
    clear hP hD hP0 hD0 hS0
    obtain ⟨hz0, hm⟩ := ckd hm
    have hnz := nz_nar hz0
    exact eWz (Wf := fun (uu : SV × SV) => wX0 q a uu.1 (b 99) ++ wX3 q b uu.2) (u := (y13.2, u)) X hr hlocks hnz hP5 hD5 hS5 hm dX0_readParts_16
noncomputable def m_X0_notePart (v : SV) (u : SV) : Option (Int32 × SV) :=
  lett (up2 v 0 11 (if (v 0 11) < (v 0 8) then (v 0 8) else (v 0 11))) (fun v1_ => some ((v1_ 0 8), v1_))
set_option maxHeartbeats 4000000 in
set_option maxRecDepth 100000 in
theorem c_X0_notePart (l : Launch) (D : va_G) (q : Nat → ClassId) (sz : Nat) (a : Nat → Nat) (v : SV) (b : Nat → Nat) (u : SV) (res : Int32 × SV) (hm : m_X0_notePart v u = some res) : Met l yX0_notePart (mw yX0_notePart cX0_notePart 1 (some .int)) ({ frames := 1, cells := 0, slots := 0, locals := 21 } : Room) (pcW D q (wX0 q a v (b 99) ++ wX3 q b u) sz [.ref (a 99)]) (va_Qi (fun r w => r = res.1 ∧ w = res.2) (bW D q (wX0 q a v (b 99) ++ wX3 q b u) sz (fun (uu : SV) => wX0 q a uu (b 99) ++ wX3 q b u)) (va_A (wX0 q a v (b 99) ++ wX3 q b u) sz)) 0 0 (va_A (wX0 q a v (b 99) ++ wX3 q b u) sz) := by
  refine Met.ofW (cc := cX0_notePart) (maxL := 1) (ret := (some .int)) (by decide) rfl ?_
  intro p e s m args below meth c s₁ B hml hv
  obtain ⟨rfl, hsz, hP0, hK, hD0⟩ := hv
  have hx := B.exec
  have hb := B.bytes
  have hr := B.returns
  have hW := mw_ws (atoms_spec (ws := mw yX0_notePart cX0_notePart 1 (some .int)) B.pre)
  have hown : s.vm.findClass RX0 = some m.cls := findClass_of_methodNamed B.named
  have hlocks := B.notSynchronized
  have X : Cx p s m [.ref (a 99)].toArray c cX0_notePart 1 RX0 D q := ⟨hx, hb, hml, hown, hW, hK⟩
  subst hsz
  replace hD0 := hD0.self (sz := s.heap.size)
  have hS0 : va_S (va_A (wX0 q a v (b 99) ++ wX3 q b u) s.heap.size) s.heap s.heap [] := va_S.rf
  have hl0 := lv_entry ([.ref (a 99)]) (n := 1) (Nat.le_of_ble_eq_true rfl)
  rw [lg_entry_eq]
  generalize (lg_sl ([.ref (a 99)]) ++ List.replicate (1 - (lg_sl ([.ref (a 99)])).length) Slot.unset).toArray = ls0 at hl0 ⊢
  have hl0 : lv_has ls0 1 [(0, .ref (a 99))] := hl0
  unfold m_X0_notePart at hm
  refine lv_aload_n hx hb dX0_notePart_0 rfl (lv_at hl0 0 rfl) ?_
  refine lv_aload_n hx hb dX0_notePart_1 rfl (lv_at hl0 0 rfl) ?_
  refine va_get (D := D) (ci := 0) (v := .int (v 0 11)) (C := RX0) (T := TX0) (N := 13) hx hb hW iX0 hown hK hP0 0 rfl rfl 11 (by decide) (hW _ k_188) (fun _ h => h) rfl dX0_notePart_2 ?_
  refine lv_aload_n hx hb dX0_notePart_5 rfl (lv_at hl0 0 rfl) ?_
  refine va_get (D := D) (ci := 0) (v := .int (v 0 8)) (C := RX0) (T := TX0) (N := 13) hx hb hW iX0 hown hK hP0 0 rfl rfl 8 (by decide) (hW _ k_185) (fun _ h => h) rfl dX0_notePart_6 ?_
  refine va_mmax hx hb (by rw [X.2.2.1]; exact hl0.1.symm) hown (hW _ k_482) (hW _ k_483) (hW _ k_52) (hW _ k_484) (by exact Nat.le_of_ble_eq_true rfl) (by exact Nat.le_of_ble_eq_true rfl) (Nat.zero_le _) (Nat.zero_le _) dX0_notePart_9 ?_
  refine va_put (D := D) (ci := 0) (v := .int (if (v 0 11) < (v 0 8) then (v 0 8) else (v 0 11))) (ty := .int) (C := RX0) (T := TX0) (N := 13) hx hb hW iX0 tyX0 tyX0_ok nmX0 hown hK hP0 hD0 hS0 0 rfl rfl 11 (by decide) (hW _ k_188) (fun _ h => h) rfl (by decide +kernel) rfl rfl (Nat.le_of_ble_eq_true rfl) dX0_notePart_12 (fun H1 locs1 hP hD hS1 => ?_)
  obtain ⟨v1_, e1, hm⟩ := ltd hm
  have hP1 : va_P D cls (wX0 q a v1_ (b 99) ++ wX3 q b u) H1 := by rw [e1]; exact hP
  have hD1 : va_D (va_A (wX0 q a v (b 99) ++ wX3 q b u) s.heap.size) (wX0 q a v1_ (b 99) ++ wX3 q b u) := by rw [e1]; exact hD
  clear hP hD hP0 hD0 hS0
  refine lv_aload_n hx hb dX0_notePart_15 rfl (lv_at hl0 0 rfl) ?_
  refine va_get (D := D) (ci := 0) (v := .int (v1_ 0 8)) (C := RX0) (T := TX0) (N := 13) hx hb hW iX0 hown hK hP1 0 rfl rfl 8 (by decide) (hW _ k_185) (fun _ h => h) rfl dX0_notePart_16 ?_
  exact eWi (Wf := fun (uu : SV) => wX0 q a uu (b 99) ++ wX3 q b u) (u := v1_) X hr hlocks hP1 hD1 hS1 hm dX0_notePart_19
noncomputable def m_X0_readWorth (v : SV) (u : SV) : Option (Int32 × SV × SV) :=
  (m_X0_readNumber v u (0 : Int32) (5 : Int32)).bind (fun y3 => (if y3.1 = 0 then some ((0 : Int32), y3.2, u) else (m_X0_notePart y3.2 u).bind (fun y12 => (if (((y12.2 0 10) >>> (y12.1 &&& 31)) &&& (1 : Int32)) = (1 : Int32) then (m_X0_refuse y12.2 u (4 : Int32) (y12.2 0 6)).bind (fun y34 => ck (nzB y34.1) (some (y34.1, y34.2, u))) else lett (up2 y12.2 0 10 ((y12.2 0 10) ||| ((1 : Int32) <<< (y12.1 &&& 31)))) (fun v5_ => (m_X0_readNumber v5_ u (0 : Int32) (9 : Int32)).bind (fun y54 => (if y54.1 = 0 then some ((0 : Int32), y54.2, u) else ck (inB y12.1 6) (lett (up2 u 6 ((y12.1).toNatClampNeg) (y54.2 0 8)) (fun v8_ => (m_X0_readSign y54.2 v8_).bind (fun y76 => ck (nzB y76.1) (some (y76.1, y76.2, v8_))))))))))))
set_option maxHeartbeats 4000000 in
set_option maxRecDepth 100000 in
theorem c_X0_readWorth (l : Launch) (D : va_G) (q : Nat → ClassId) (sz : Nat) (a : Nat → Nat) (v : SV) (b : Nat → Nat) (u : SV) (res : Int32 × SV × SV) (hm : m_X0_readWorth v u = some res) : Met l yX0_readWorth (mw yX0_readWorth cX0_readWorth 2 (some .boolean)) ({ frames := 3, cells := 0, slots := 0, locals := 66 } : Room) (pcW D q (wX0 q a v (b 99) ++ wX3 q b u) sz [.ref (a 99)]) (va_Qi (fun r w => r = res.1 ∧ w = res.2) (bW D q (wX0 q a v (b 99) ++ wX3 q b u) sz (fun (uu : SV × SV) => wX0 q a uu.1 (b 99) ++ wX3 q b uu.2)) (va_A (wX0 q a v (b 99) ++ wX3 q b u) sz)) 0 0 (va_A (wX0 q a v (b 99) ++ wX3 q b u) sz) := by
  refine Met.ofW (cc := cX0_readWorth) (maxL := 2) (ret := (some .boolean)) (by decide) rfl ?_
  intro p e s m args below meth c s₁ B hml hv
  obtain ⟨rfl, hsz, hP0, hK, hD0⟩ := hv
  have hx := B.exec
  have hb := B.bytes
  have hr := B.returns
  have hW := mw_ws (atoms_spec (ws := mw yX0_readWorth cX0_readWorth 2 (some .boolean)) B.pre)
  have hown : s.vm.findClass RX0 = some m.cls := findClass_of_methodNamed B.named
  have hlocks := B.notSynchronized
  have X : Cx p s m [.ref (a 99)].toArray c cX0_readWorth 2 RX0 D q := ⟨hx, hb, hml, hown, hW, hK⟩
  subst hsz
  replace hD0 := hD0.self (sz := s.heap.size)
  have hS0 : va_S (va_A (wX0 q a v (b 99) ++ wX3 q b u) s.heap.size) s.heap s.heap [] := va_S.rf
  have hl0 := lv_entry ([.ref (a 99)]) (n := 2) (Nat.le_of_ble_eq_true rfl)
  rw [lg_entry_eq]
  generalize (lg_sl ([.ref (a 99)]) ++ List.replicate (2 - (lg_sl ([.ref (a 99)])).length) Slot.unset).toArray = ls0 at hl0 ⊢
  have hl0 : lv_has ls0 2 [(0, .ref (a 99))] := hl0
  unfold m_X0_readWorth at hm
  refine lv_aload_n hx hb dX0_readWorth_0 rfl (lv_at hl0 0 rfl) ?_
  refine lv_iconst (v := (0 : Int32)) hx hb dX0_readWorth_1 (by decide) ?_
  refine lv_iconst (v := (5 : Int32)) hx hb dX0_readWorth_2 (by decide) ?_
  obtain ⟨y3, hy3, hm⟩ := bn hm
  refine cVWi (As := [.int (0 : Int32), .int (5 : Int32)]) (rest := []) (Wn := fun (uu : SV) => wX0 q a uu (b 99) ++ wX3 q b u) X hP0 hD0 hS0 (fun _ h => Or.inr h) hl0.1 (c_X0_readNumber l D q s.heap.size a v b u (0 : Int32) (5 : Int32) y3 hy3) [0, 1, 2, 3, 4, 5, 6, 7, 8, 9, 10, 11, 12, 13] [] [0, 1, 2, 3, 4, 5, 6, 7, 8, 9, 10, 11, 12, 13] rfl (Wr := []) rfl (by decide) (by decide) (by decide) (by decide) (fun _ => rfl) 0 rfl rfl rfl k_454 mX0_readNumber ⟨rfl, rfl⟩ ⟨Nat.le_of_ble_eq_true rfl, Nat.le_of_ble_eq_true rfl⟩ rfl rfl (Nat.le_of_ble_eq_true rfl) dX0_readWorth_3 ⟨Nat.zero_le _, Nat.zero_le _⟩ (fun H1 locs1 hP hD hS1 => ?_)
  have hP1 : va_P D cls (wX0 q a y3.2 (b 99) ++ wX3 q b u) H1 := hP
  have hD1 : va_D (va_A (wX0 q a v (b 99) ++ wX3 q b u) s.heap.size) (wX0 q a y3.2 (b 99) ++ wX3 q b u) := hD
  clear hP hD hP0 hD0 hS0
  refine lv_if_ne (tgt := 11) hx hb dX0_readWorth_6 (by decide) (fun c6 => ?_) (fun c6 => ?_)
  · replace hm := tn hm c6
    refine lv_aload_n hx hb dX0_readWorth_11 rfl (lv_at hl0 0 rfl) ?_
    obtain ⟨y12, hy12, hm⟩ := bn hm
    refine cVWi (As := []) (rest := []) (Wn := fun (uu : SV) => wX0 q a uu (b 99) ++ wX3 q b u) X hP1 hD1 hS1 (fun _ h => Or.inr h) hl0.1 (c_X0_notePart l D q H1.size a y3.2 b u y12 hy12) [0, 1, 2, 3, 4, 5, 6, 7, 8, 9, 10, 11, 12, 13] [] [0, 1, 2, 3, 4, 5, 6, 7, 8, 9, 10, 11, 12, 13] rfl (Wr := []) rfl (by decide) (by decide) (by decide) (by decide) (fun _ => rfl) 0 rfl rfl rfl k_478 mX0_notePart ⟨rfl, rfl⟩ ⟨Nat.le_of_ble_eq_true rfl, Nat.le_of_ble_eq_true rfl⟩ rfl rfl (Nat.le_of_ble_eq_true rfl) dX0_readWorth_12 ⟨Nat.zero_le _, Nat.zero_le _⟩ (fun H2 locs2 hP hD hS2 => ?_)
    have hP2 : va_P D cls (wX0 q a y12.2 (b 99) ++ wX3 q b u) H2 := hP
    have hD2 : va_D (va_A (wX0 q a v (b 99) ++ wX3 q b u) s.heap.size) (wX0 q a y12.2 (b 99) ++ wX3 q b u) := hD
    clear hP hD hP1 hD1 hS1
    refine lv_istore_n (lv' := [(1, .int y12.1), (0, .ref (a 99))]) hx hb dX0_readWorth_15 rfl hl0 (by decide) rfl (fun ls3 hl3 => ?_)
    clear hl0
    refine lv_aload_n hx hb dX0_readWorth_16 rfl (lv_at hl3 1 rfl) ?_
    refine va_get (D := D) (ci := 0) (v := .int (y12.2 0 10)) (C := RX0) (T := TX0) (N := 13) hx hb hW iX0 hown hK hP2 0 rfl rfl 10 (by decide) (hW _ k_187) (fun _ h => h) rfl dX0_readWorth_17 ?_
    refine lv_iload_n hx hb dX0_readWorth_20 rfl (lv_at hl3 0 rfl) ?_
    refine lv_ishr hx hb dX0_readWorth_21 ?_
    refine lv_iconst (v := (1 : Int32)) hx hb dX0_readWorth_22 (by decide) ?_
    refine lv_iand hx hb dX0_readWorth_23 ?_
    refine lv_iconst (v := (1 : Int32)) hx hb dX0_readWorth_24 (by decide) ?_
    refine lv_icmp_ne (tgt := 38) hx hb dX0_readWorth_25 (by decide) (fun c25 => ?_) (fun c25 => ?_)
    · replace hm := tn hm c25
      refine lv_aload_n hx hb dX0_readWorth_38 rfl (lv_at hl3 1 rfl) ?_
      refine lv_dup hx hb dX0_readWorth_39 rfl ?_
      refine va_get (D := D) (ci := 0) (v := .int (y12.2 0 10)) (C := RX0) (T := TX0) (N := 13) hx hb hW iX0 hown hK hP2 0 rfl rfl 10 (by decide) (hW _ k_187) (fun _ h => h) rfl dX0_readWorth_40 ?_
      refine lv_iconst (v := (1 : Int32)) hx hb dX0_readWorth_43 (by decide) ?_
      refine lv_iload_n hx hb dX0_readWorth_44 rfl (lv_at hl3 0 rfl) ?_
      refine lv_ishl hx hb dX0_readWorth_45 ?_
      refine lv_ior hx hb dX0_readWorth_46 ?_
      refine va_put (D := D) (ci := 0) (v := .int ((y12.2 0 10) ||| ((1 : Int32) <<< (y12.1 &&& 31)))) (ty := .int) (C := RX0) (T := TX0) (N := 13) hx hb hW iX0 tyX0 tyX0_ok nmX0 hown hK hP2 hD2 hS2 0 rfl rfl 10 (by decide) (hW _ k_187) (fun _ h => h) rfl (by decide +kernel) rfl rfl (Nat.le_of_ble_eq_true rfl) dX0_readWorth_47 (fun H5 locs5 hP hD hS5 => ?_)
      obtain ⟨v5_, e5, hm⟩ := ltd hm
      have hP5 : va_P D cls (wX0 q a v5_ (b 99) ++ wX3 q b u) H5 := by rw [e5]; exact hP
      have hD5 : va_D (va_A (wX0 q a v (b 99) ++ wX3 q b u) s.heap.size) (wX0 q a v5_ (b 99) ++ wX3 q b u) := by rw [e5]; exact hD
      clear hP hD hP2 hD2 hS2
      refine lv_aload_n hx hb dX0_readWorth_50 rfl (lv_at hl3 1 rfl) ?_
      refine lv_iconst (v := (0 : Int32)) hx hb dX0_readWorth_51 (by decide) ?_
      refine lv_bipush (v := (9 : Int32)) hx hb dX0_readWorth_52 (by decide) ?_
      obtain ⟨y54, hy54, hm⟩ := bn hm
      refine cVWi (As := [.int (0 : Int32), .int (9 : Int32)]) (rest := []) (Wn := fun (uu : SV) => wX0 q a uu (b 99) ++ wX3 q b u) X hP5 hD5 hS5 (fun _ h => Or.inr h) hl3.1 (c_X0_readNumber l D q H5.size a v5_ b u (0 : Int32) (9 : Int32) y54 hy54) [0, 1, 2, 3, 4, 5, 6, 7, 8, 9, 10, 11, 12, 13] [] [0, 1, 2, 3, 4, 5, 6, 7, 8, 9, 10, 11, 12, 13] rfl (Wr := []) rfl (by decide) (by decide) (by decide) (by decide) (fun _ => rfl) 0 rfl rfl rfl k_454 mX0_readNumber ⟨rfl, rfl⟩ ⟨Nat.le_of_ble_eq_true rfl, Nat.le_of_ble_eq_true rfl⟩ rfl rfl (Nat.le_of_ble_eq_true rfl) dX0_readWorth_54 ⟨Nat.zero_le _, Nat.zero_le _⟩ (fun H6 locs6 hP hD hS6 => ?_)
      have hP6 : va_P D cls (wX0 q a y54.2 (b 99) ++ wX3 q b u) H6 := hP
      have hD6 : va_D (va_A (wX0 q a v (b 99) ++ wX3 q b u) s.heap.size) (wX0 q a y54.2 (b 99) ++ wX3 q b u) := hD
      clear hP hD hP5 hD5 hS5
      refine lv_if_ne (tgt := 62) hx hb dX0_readWorth_57 (by decide) (fun c57 => ?_) (fun c57 => ?_)
      · replace hm := tn hm c57
        refine lv_aload_n hx hb dX0_readWorth_62 rfl (lv_at hl3 1 rfl) ?_
        refine va_get (D := D) (ci := 0) (v := .ref (b 99)) (C := RX0) (T := TX0) (N := 13) hx hb hW iX0 hown hK hP6 0 rfl rfl 2 (by decide) (hW _ k_177) (fun _ h => h) rfl dX0_readWorth_63 ?_
        refine va_get (D := D) (ci := 3) (v := .ref (b 6)) (C := RX3) (T := TX3) (N := 17) hx hb hW iX3 hown hK hP6 2 rfl rfl 6 (by decide) (hW _ k_104) (fun _ h => h) rfl dX0_readWorth_66 ?_
        refine lv_iload_n hx hb dX0_readWorth_69 rfl (lv_at hl3 0 rfl) ?_
        refine lv_aload_n hx hb dX0_readWorth_70 rfl (lv_at hl3 1 rfl) ?_
        refine va_get (D := D) (ci := 0) (v := .int (y54.2 0 8)) (C := RX0) (T := TX0) (N := 13) hx hb hW iX0 hown hK hP6 0 rfl rfl 8 (by decide) (hW _ k_185) (fun _ h => h) rfl dX0_readWorth_71 ?_
        obtain ⟨h7, hm⟩ := ckd hm
        refine va_iast (f := (u 6)) hx hb hK hP6 hD6 hS6 3 0 rfl rfl (inB_vp h7) dX0_readWorth_74 (fun H8 locs8 hP hD hS8 => ?_)
        obtain ⟨v8_, e8, hm⟩ := ltd hm
        have hP8 : va_P D cls (wX0 q a y54.2 (b 99) ++ wX3 q b v8_) H8 := by rw [e8]; exact hP
        have hD8 : va_D (va_A (wX0 q a v (b 99) ++ wX3 q b u) s.heap.size) (wX0 q a y54.2 (b 99) ++ wX3 q b v8_) := by rw [e8]; exact hD
        clear hP hD hP6 hD6 hS6
        refine lv_aload_n hx hb dX0_readWorth_75 rfl (lv_at hl3 1 rfl) ?_
        obtain ⟨y76, hy76, hm⟩ := bn hm
        refine cVWi (As := []) (rest := []) (Wn := fun (uu : SV) => wX0 q a uu (b 99) ++ wX3 q b v8_) X hP8 hD8 hS8 (fun _ h => Or.inr h) hl3.1 (c_X0_readSign l D q H8.size a y54.2 b v8_ y76 hy76) [0, 1, 2, 3, 4, 5, 6, 7, 8, 9, 10, 11, 12, 13] [] [0, 1, 2, 3, 4, 5, 6, 7, 8, 9, 10, 11, 12, 13] rfl (Wr := []) rfl (by decide) (by decide) (by decide) (by decide) (fun _ => rfl) 0 rfl rfl rfl k_470 mX0_readSign ⟨rfl, rfl⟩ ⟨Nat.le_of_ble_eq_true rfl, Nat.le_of_ble_eq_true rfl⟩ rfl rfl (Nat.le_of_ble_eq_true rfl) dX0_readWorth_76 ⟨Nat.zero_le _, Nat.zero_le _⟩ (fun H9 locs9 hP hD hS9 => ?_)
        have hP9 : va_P D cls (wX0 q a y76.2 (b 99) ++ wX3 q b v8_) H9 := hP
        have hD9 : va_D (va_A (wX0 q a v (b 99) ++ wX3 q b u) s.heap.size) (wX0 q a y76.2 (b 99) ++ wX3 q b v8_) := hD
        clear hP hD hP8 hD8 hS8
        obtain ⟨hz0, hm⟩ := ckd hm
        have hnz := nz_nar hz0
        exact eWz (Wf := fun (uu : SV × SV) => wX0 q a uu.1 (b 99) ++ wX3 q b uu.2) (u := (y76.2, v8_)) X hr hlocks hnz hP9 hD9 hS9 hm dX0_readWorth_79
      · replace hm := tp hm c57
        refine lv_iconst (v := (0 : Int32)) hx hb dX0_readWorth_60 (by decide) ?_
        exact eWz (Wf := fun (uu : SV × SV) => wX0 q a uu.1 (b 99) ++ wX3 q b uu.2) (u := (y54.2, u)) X hr hlocks rfl hP6 hD6 hS6 hm dX0_readWorth_61
    · replace hm := tp hm c25
      refine lv_aload_n hx hb dX0_readWorth_28 rfl (lv_at hl3 1 rfl) ?_
      refine lv_iconst (v := (4 : Int32)) hx hb dX0_readWorth_29 (by decide) ?_
      refine lv_aload_n hx hb dX0_readWorth_30 rfl (lv_at hl3 1 rfl) ?_
      refine va_get (D := D) (ci := 0) (v := .int (y12.2 0 6)) (C := RX0) (T := TX0) (N := 13) hx hb hW iX0 hown hK hP2 0 rfl rfl 6 (by decide) (hW _ k_183) (fun _ h => h) rfl dX0_readWorth_31 ?_
      obtain ⟨y34, hy34, hm⟩ := bn hm
      refine cVWi (As := [.int (4 : Int32), .int (y12.2 0 6)]) (rest := []) (Wn := fun (uu : SV) => wX0 q a uu (b 99) ++ wX3 q b u) X hP2 hD2 hS2 (fun _ h => Or.inr h) hl3.1 (c_X0_refuse l D q H2.size a y12.2 b u (4 : Int32) (y12.2 0 6) y34 hy34) [0, 1, 2, 3, 4, 5, 6, 7, 8, 9, 10, 11, 12, 13] [] [0, 1, 2, 3, 4, 5, 6, 7, 8, 9, 10, 11, 12, 13] rfl (Wr := []) rfl (by decide) (by decide) (by decide) (by decide) (fun _ => rfl) 0 rfl rfl rfl k_374 mX0_refuse ⟨rfl, rfl⟩ ⟨Nat.le_of_ble_eq_true rfl, Nat.le_of_ble_eq_true rfl⟩ rfl rfl (Nat.le_of_ble_eq_true rfl) dX0_readWorth_34 ⟨Nat.zero_le _, Nat.zero_le _⟩ (fun H4 locs4 hP hD hS4 => ?_)
      have hP4 : va_P D cls (wX0 q a y34.2 (b 99) ++ wX3 q b u) H4 := hP
      have hD4 : va_D (va_A (wX0 q a v (b 99) ++ wX3 q b u) s.heap.size) (wX0 q a y34.2 (b 99) ++ wX3 q b u) := hD
      clear hP hD hP2 hD2 hS2
      obtain ⟨hz0, hm⟩ := ckd hm
      have hnz := nz_nar hz0
      exact eWz (Wf := fun (uu : SV × SV) => wX0 q a uu.1 (b 99) ++ wX3 q b uu.2) (u := (y34.2, u)) X hr hlocks hnz hP4 hD4 hS4 hm dX0_readWorth_37
  · replace hm := tp hm c6
    refine lv_iconst (v := (0 : Int32)) hx hb dX0_readWorth_9 (by decide) ?_
    exact eWz (Wf := fun (uu : SV × SV) => wX0 q a uu.1 (b 99) ++ wX3 q b uu.2) (u := (y3.2, u)) X hr hlocks rfl hP1 hD1 hS1 hm dX0_readWorth_10
noncomputable def m_X0_readBond (v : SV) (u : SV) : Option (Int32 × SV × SV) :=
  (if (u 0 2) < (5 : Int32) then (m_X0_readNumber v u (0 : Int32) (5 : Int32)).bind (fun y26 => (if y26.1 = 0 then some ((0 : Int32), y26.2, u) else (m_X0_notePart y26.2 u).bind (fun y43 => ck (inB (u 0 2) 5) (lett (up2 u 14 (((u 0 2)).toNatClampNeg) y43.1) (fun v5_ => (m_X0_readNumber y43.2 v5_ (0 : Int32) (5 : Int32)).bind (fun y50 => (if y50.1 = 0 then some ((0 : Int32), y50.2, v5_) else (m_X0_notePart y50.2 v5_).bind (fun y67 => ck (inB (u 0 2) 5) (lett (up2 v5_ 15 (((u 0 2)).toNatClampNeg) y67.1) (fun v9_ => ck (inB (u 0 2) 5) (ck (inB (u 0 2) 5) ((if (v9_ 15 (((u 0 2)).toNatClampNeg)) = (v9_ 14 (((u 0 2)).toNatClampNeg)) then (m_X0_refuse y67.2 v9_ (3 : Int32) (y67.2 0 6)).bind (fun y98 => ck (nzB y98.1) (some (y98.1, y98.2, v9_))) else lett (up2 v9_ 0 2 ((v9_ 0 2) + (1 : Int32))) (fun v13_ => (m_X0_readSign y67.2 v13_).bind (fun y116 => ck (nzB y116.1) (some (y116.1, y116.2, v13_))))))))))))))))) else (m_X0_refuse v u (5 : Int32) (v 0 6)).bind (fun y19 => ck (nzB y19.1) (some (y19.1, y19.2, u))))
set_option maxHeartbeats 4000000 in
set_option maxRecDepth 100000 in
theorem c_X0_readBond (l : Launch) (D : va_G) (q : Nat → ClassId) (sz : Nat) (a : Nat → Nat) (v : SV) (b : Nat → Nat) (u : SV) (res : Int32 × SV × SV) (hm : m_X0_readBond v u = some res) : Met l yX0_readBond (mw yX0_readBond cX0_readBond 2 (some .boolean)) ({ frames := 3, cells := 0, slots := 0, locals := 66 } : Room) (pcW D q (wX0 q a v (b 99) ++ wX3 q b u) sz [.ref (a 99)]) (va_Qi (fun r w => r = res.1 ∧ w = res.2) (bW D q (wX0 q a v (b 99) ++ wX3 q b u) sz (fun (uu : SV × SV) => wX0 q a uu.1 (b 99) ++ wX3 q b uu.2)) (va_A (wX0 q a v (b 99) ++ wX3 q b u) sz)) 0 0 (va_A (wX0 q a v (b 99) ++ wX3 q b u) sz) := by
  refine Met.ofW (cc := cX0_readBond) (maxL := 2) (ret := (some .boolean)) (by decide) rfl ?_
  intro p e s m args below meth c s₁ B hml hv
  obtain ⟨rfl, hsz, hP0, hK, hD0⟩ := hv
  have hx := B.exec
  have hb := B.bytes
  have hr := B.returns
  have hW := mw_ws (atoms_spec (ws := mw yX0_readBond cX0_readBond 2 (some .boolean)) B.pre)
  have hown : s.vm.findClass RX0 = some m.cls := findClass_of_methodNamed B.named
  have hlocks := B.notSynchronized
  have X : Cx p s m [.ref (a 99)].toArray c cX0_readBond 2 RX0 D q := ⟨hx, hb, hml, hown, hW, hK⟩
  subst hsz
  replace hD0 := hD0.self (sz := s.heap.size)
  have hS0 : va_S (va_A (wX0 q a v (b 99) ++ wX3 q b u) s.heap.size) s.heap s.heap [] := va_S.rf
  have hl0 := lv_entry ([.ref (a 99)]) (n := 2) (Nat.le_of_ble_eq_true rfl)
  rw [lg_entry_eq]
  generalize (lg_sl ([.ref (a 99)]) ++ List.replicate (2 - (lg_sl ([.ref (a 99)])).length) Slot.unset).toArray = ls0 at hl0 ⊢
  have hl0 : lv_has ls0 2 [(0, .ref (a 99))] := hl0
  unfold m_X0_readBond at hm
  refine lv_aload_n hx hb dX0_readBond_0 rfl (lv_at hl0 0 rfl) ?_
  refine va_get (D := D) (ci := 0) (v := .ref (b 99)) (C := RX0) (T := TX0) (N := 13) hx hb hW iX0 hown hK hP0 0 rfl rfl 2 (by decide) (hW _ k_177) (fun _ h => h) rfl dX0_readBond_1 ?_
  refine va_get (D := D) (ci := 3) (v := .int (u 0 2)) (C := RX3) (T := TX3) (N := 17) hx hb hW iX3 hown hK hP0 2 rfl rfl 2 (by decide) (hW _ k_92) (fun _ h => h) rfl dX0_readBond_4 ?_
  refine lv_istore_n (lv' := [(1, .int (u 0 2)), (0, .ref (a 99))]) hx hb dX0_readBond_7 rfl hl0 (by decide) rfl (fun ls1 hl1 => ?_)
  clear hl0
  refine lv_iload_n hx hb dX0_readBond_8 rfl (lv_at hl1 0 rfl) ?_
  refine lv_iconst (v := (5 : Int32)) hx hb dX0_readBond_9 (by decide) ?_
  refine lv_icmp_lt (tgt := 23) hx hb dX0_readBond_10 (by decide) (fun c10 => ?_) (fun c10 => ?_)
  · replace hm := tp hm c10
    refine lv_aload_n hx hb dX0_readBond_23 rfl (lv_at hl1 1 rfl) ?_
    refine lv_iconst (v := (0 : Int32)) hx hb dX0_readBond_24 (by decide) ?_
    refine lv_iconst (v := (5 : Int32)) hx hb dX0_readBond_25 (by decide) ?_
    obtain ⟨y26, hy26, hm⟩ := bn hm
    refine cVWi (As := [.int (0 : Int32), .int (5 : Int32)]) (rest := []) (Wn := fun (uu : SV) => wX0 q a uu (b 99) ++ wX3 q b u) X hP0 hD0 hS0 (fun _ h => Or.inr h) hl1.1 (c_X0_readNumber l D q s.heap.size a v b u (0 : Int32) (5 : Int32) y26 hy26) [0, 1, 2, 3, 4, 5, 6, 7, 8, 9, 10, 11, 12, 13] [] [0, 1, 2, 3, 4, 5, 6, 7, 8, 9, 10, 11, 12, 13] rfl (Wr := []) rfl (by decide) (by decide) (by decide) (by decide) (fun _ => rfl) 0 rfl rfl rfl k_454 mX0_readNumber ⟨rfl, rfl⟩ ⟨Nat.le_of_ble_eq_true rfl, Nat.le_of_ble_eq_true rfl⟩ rfl rfl (Nat.le_of_ble_eq_true rfl) dX0_readBond_26 ⟨Nat.zero_le _, Nat.zero_le _⟩ (fun H2 locs2 hP hD hS2 => ?_)
    have hP2 : va_P D cls (wX0 q a y26.2 (b 99) ++ wX3 q b u) H2 := hP
    have hD2 : va_D (va_A (wX0 q a v (b 99) ++ wX3 q b u) s.heap.size) (wX0 q a y26.2 (b 99) ++ wX3 q b u) := hD
    clear hP hD hP0 hD0 hS0
    refine lv_if_ne (tgt := 34) hx hb dX0_readBond_29 (by decide) (fun c29 => ?_) (fun c29 => ?_)
    · replace hm := tn hm c29
      refine lv_aload_n hx hb dX0_readBond_34 rfl (lv_at hl1 1 rfl) ?_
      refine va_get (D := D) (ci := 0) (v := .ref (b 99)) (C := RX0) (T := TX0) (N := 13) hx hb hW iX0 hown hK hP2 0 rfl rfl 2 (by decide) (hW _ k_177) (fun _ h => h) rfl dX0_readBond_35 ?_
      refine va_get (D := D) (ci := 3) (v := .ref (b 14)) (C := RX3) (T := TX3) (N := 17) hx hb hW iX3 hown hK hP2 2 rfl rfl 14 (by decide) (hW _ k_127) (fun _ h => h) rfl dX0_readBond_38 ?_
      refine lv_iload_n hx hb dX0_readBond_41 rfl (lv_at hl1 0 rfl) ?_
      refine lv_aload_n hx hb dX0_readBond_42 rfl (lv_at hl1 1 rfl) ?_
      obtain ⟨y43, hy43, hm⟩ := bn hm
      refine cVWi (As := []) (rest := [.int (u 0 2), .ref (b 14)]) (Wn := fun (uu : SV) => wX0 q a uu (b 99) ++ wX3 q b u) X hP2 hD2 hS2 (fun _ h => Or.inr h) hl1.1 (c_X0_notePart l D q H2.size a y26.2 b u y43 hy43) [0, 1, 2, 3, 4, 5, 6, 7, 8, 9, 10, 11, 12, 13] [] [0, 1, 2, 3, 4, 5, 6, 7, 8, 9, 10, 11, 12, 13] rfl (Wr := []) rfl (by decide) (by decide) (by decide) (by decide) (fun _ => rfl) 0 rfl rfl rfl k_478 mX0_notePart ⟨rfl, rfl⟩ ⟨Nat.le_of_ble_eq_true rfl, Nat.le_of_ble_eq_true rfl⟩ rfl rfl (Nat.le_of_ble_eq_true rfl) dX0_readBond_43 ⟨Nat.zero_le _, Nat.zero_le _⟩ (fun H3 locs3 hP hD hS3 => ?_)
      have hP3 : va_P D cls (wX0 q a y43.2 (b 99) ++ wX3 q b u) H3 := hP
      have hD3 : va_D (va_A (wX0 q a v (b 99) ++ wX3 q b u) s.heap.size) (wX0 q a y43.2 (b 99) ++ wX3 q b u) := hD
      clear hP hD hP2 hD2 hS2
      obtain ⟨h4, hm⟩ := ckd hm
      refine va_iast (f := (u 14)) hx hb hK hP3 hD3 hS3 11 0 rfl rfl (inB_vp h4) dX0_readBond_46 (fun H5 locs5 hP hD hS5 => ?_)
      obtain ⟨v5_, e5, hm⟩ := ltd hm
      have hP5 : va_P D cls (wX0 q a y43.2 (b 99) ++ wX3 q b v5_) H5 := by rw [e5]; exact hP
      have hD5 : va_D (va_A (wX0 q a v (b 99) ++ wX3 q b u) s.heap.size) (wX0 q a y43.2 (b 99) ++ wX3 q b v5_) := by rw [e5]; exact hD
      clear hP hD hP3 hD3 hS3
      refine lv_aload_n hx hb dX0_readBond_47 rfl (lv_at hl1 1 rfl) ?_
      refine lv_iconst (v := (0 : Int32)) hx hb dX0_readBond_48 (by decide) ?_
      refine lv_iconst (v := (5 : Int32)) hx hb dX0_readBond_49 (by decide) ?_
      obtain ⟨y50, hy50, hm⟩ := bn hm
      refine cVWi (As := [.int (0 : Int32), .int (5 : Int32)]) (rest := []) (Wn := fun (uu : SV) => wX0 q a uu (b 99) ++ wX3 q b v5_) X hP5 hD5 hS5 (fun _ h => Or.inr h) hl1.1 (c_X0_readNumber l D q H5.size a y43.2 b v5_ (0 : Int32) (5 : Int32) y50 hy50) [0, 1, 2, 3, 4, 5, 6, 7, 8, 9, 10, 11, 12, 13] [] [0, 1, 2, 3, 4, 5, 6, 7, 8, 9, 10, 11, 12, 13] rfl (Wr := []) rfl (by decide) (by decide) (by decide) (by decide) (fun _ => rfl) 0 rfl rfl rfl k_454 mX0_readNumber ⟨rfl, rfl⟩ ⟨Nat.le_of_ble_eq_true rfl, Nat.le_of_ble_eq_true rfl⟩ rfl rfl (Nat.le_of_ble_eq_true rfl) dX0_readBond_50 ⟨Nat.zero_le _, Nat.zero_le _⟩ (fun H6 locs6 hP hD hS6 => ?_)
      have hP6 : va_P D cls (wX0 q a y50.2 (b 99) ++ wX3 q b v5_) H6 := hP
      have hD6 : va_D (va_A (wX0 q a v (b 99) ++ wX3 q b u) s.heap.size) (wX0 q a y50.2 (b 99) ++ wX3 q b v5_) := hD
      clear hP hD hP5 hD5 hS5
      refine lv_if_ne (tgt := 58) hx hb dX0_readBond_53 (by decide) (fun c53 => ?_) (fun c53 => ?_)
      · replace hm := tn hm c53
        refine lv_aload_n hx hb dX0_readBond_58 rfl (lv_at hl1 1 rfl) ?_
        refine va_get (D := D) (ci := 0) (v := .ref (b 99)) (C := RX0) (T := TX0) (N := 13) hx hb hW iX0 hown hK hP6 0 rfl rfl 2 (by decide) (hW _ k_177) (fun _ h => h) rfl dX0_readBond_59 ?_
        refine va_get (D := D) (ci := 3) (v := .ref (b 15)) (C := RX3) (T := TX3) (N := 17) hx hb hW iX3 hown hK hP6 2 rfl rfl 15 (by decide) (hW _ k_131) (fun _ h => h) rfl dX0_readBond_62 ?_
        refine lv_iload_n hx hb dX0_readBond_65 rfl (lv_at hl1 0 rfl) ?_
        refine lv_aload_n hx hb dX0_readBond_66 rfl (lv_at hl1 1 rfl) ?_
        obtain ⟨y67, hy67, hm⟩ := bn hm
        refine cVWi (As := []) (rest := [.int (u 0 2), .ref (b 15)]) (Wn := fun (uu : SV) => wX0 q a uu (b 99) ++ wX3 q b v5_) X hP6 hD6 hS6 (fun _ h => Or.inr h) hl1.1 (c_X0_notePart l D q H6.size a y50.2 b v5_ y67 hy67) [0, 1, 2, 3, 4, 5, 6, 7, 8, 9, 10, 11, 12, 13] [] [0, 1, 2, 3, 4, 5, 6, 7, 8, 9, 10, 11, 12, 13] rfl (Wr := []) rfl (by decide) (by decide) (by decide) (by decide) (fun _ => rfl) 0 rfl rfl rfl k_478 mX0_notePart ⟨rfl, rfl⟩ ⟨Nat.le_of_ble_eq_true rfl, Nat.le_of_ble_eq_true rfl⟩ rfl rfl (Nat.le_of_ble_eq_true rfl) dX0_readBond_67 ⟨Nat.zero_le _, Nat.zero_le _⟩ (fun H7 locs7 hP hD hS7 => ?_)
        have hP7 : va_P D cls (wX0 q a y67.2 (b 99) ++ wX3 q b v5_) H7 := hP
        have hD7 : va_D (va_A (wX0 q a v (b 99) ++ wX3 q b u) s.heap.size) (wX0 q a y67.2 (b 99) ++ wX3 q b v5_) := hD
        clear hP hD hP6 hD6 hS6
        obtain ⟨h8, hm⟩ := ckd hm
        refine va_iast (f := (v5_ 15)) hx hb hK hP7 hD7 hS7 12 0 rfl rfl (inB_vp h8) dX0_readBond_70 (fun H9 locs9 hP hD hS9 => ?_)
        obtain ⟨v9_, e9, hm⟩ := ltd hm
        have hP9 : va_P D cls (wX0 q a y67.2 (b 99) ++ wX3 q b v9_) H9 := by rw [e9]; exact hP
        have hD9 : va_D (va_A (wX0 q a v (b 99) ++ wX3 q b u) s.heap.size) (wX0 q a y67.2 (b 99) ++ wX3 q b v9_) := by rw [e9]; exact hD
        clear hP hD hP7 hD7 hS7
        refine lv_aload_n hx hb dX0_readBond_71 rfl (lv_at hl1 1 rfl) ?_
        refine va_get (D := D) (ci := 0) (v := .ref (b 99)) (C := RX0) (T := TX0) (N := 13) hx hb hW iX0 hown hK hP9 0 rfl rfl 2 (by decide) (hW _ k_177) (fun _ h => h) rfl dX0_readBond_72 ?_
        refine va_get (D := D) (ci := 3) (v := .ref (b 15)) (C := RX3) (T := TX3) (N := 17) hx hb hW iX3 hown hK hP9 2 rfl rfl 15 (by decide) (hW _ k_131) (fun _ h => h) rfl dX0_readBond_75 ?_
        refine lv_iload_n hx hb dX0_readBond_78 rfl (lv_at hl1 0 rfl) ?_
        obtain ⟨h10, hm⟩ := ckd hm
        refine va_iald (f := (v9_ 15)) hx hb hK hP9 12 0 rfl rfl (inB_vp h10) dX0_readBond_79 ?_
        refine lv_aload_n hx hb dX0_readBond_80 rfl (lv_at hl1 1 rfl) ?_
        refine va_get (D := D) (ci := 0) (v := .ref (b 99)) (C := RX0) (T := TX0) (N := 13) hx hb hW iX0 hown hK hP9 0 rfl rfl 2 (by decide) (hW _ k_177) (fun _ h => h) rfl dX0_readBond_81 ?_
        refine va_get (D := D) (ci := 3) (v := .ref (b 14)) (C := RX3) (T := TX3) (N := 17) hx hb hW iX3 hown hK hP9 2 rfl rfl 14 (by decide) (hW _ k_127) (fun _ h => h) rfl dX0_readBond_84 ?_
        refine lv_iload_n hx hb dX0_readBond_87 rfl (lv_at hl1 0 rfl) ?_
        obtain ⟨h11, hm⟩ := ckd hm
        refine va_iald (f := (v9_ 14)) hx hb hK hP9 11 0 rfl rfl (inB_vp h11) dX0_readBond_88 ?_
        refine lv_icmp_ne (tgt := 102) hx hb dX0_readBond_89 (by decide) (fun c89 => ?_) (fun c89 => ?_)
        · replace hm := tn hm c89
          refine lv_aload_n hx hb dX0_readBond_102 rfl (lv_at hl1 1 rfl) ?_
          refine va_get (D := D) (ci := 0) (v := .ref (b 99)) (C := RX0) (T := TX0) (N := 13) hx hb hW iX0 hown hK hP9 0 rfl rfl 2 (by decide) (hW _ k_177) (fun _ h => h) rfl dX0_readBond_103 ?_
          refine lv_dup hx hb dX0_readBond_106 rfl ?_
          refine va_get (D := D) (ci := 3) (v := .int (v9_ 0 2)) (C := RX3) (T := TX3) (N := 17) hx hb hW iX3 hown hK hP9 2 rfl rfl 2 (by decide) (hW _ k_92) (fun _ h => h) rfl dX0_readBond_107 ?_
          refine lv_iconst (v := (1 : Int32)) hx hb dX0_readBond_110 (by decide) ?_
          refine lv_iadd hx hb dX0_readBond_111 ?_
          refine va_put (D := D) (ci := 3) (v := .int ((v9_ 0 2) + (1 : Int32))) (ty := .int) (C := RX3) (T := TX3) (N := 17) hx hb hW iX3 tyX3 tyX3_ok nmX3 hown hK hP9 hD9 hS9 2 rfl rfl 2 (by decide) (hW _ k_92) (fun _ h => h) rfl (by decide +kernel) rfl rfl (Nat.le_of_ble_eq_true rfl) dX0_readBond_112 (fun H13 locs13 hP hD hS13 => ?_)
          obtain ⟨v13_, e13, hm⟩ := ltd hm
          have hP13 : va_P D cls (wX0 q a y67.2 (b 99) ++ wX3 q b v13_) H13 := by rw [e13]; exact hP
          have hD13 : va_D (va_A (wX0 q a v (b 99) ++ wX3 q b u) s.heap.size) (wX0 q a y67.2 (b 99) ++ wX3 q b v13_) := by rw [e13]; exact hD
          clear hP hD hP9 hD9 hS9
          refine lv_aload_n hx hb dX0_readBond_115 rfl (lv_at hl1 1 rfl) ?_
          obtain ⟨y116, hy116, hm⟩ := bn hm
          refine cVWi (As := []) (rest := []) (Wn := fun (uu : SV) => wX0 q a uu (b 99) ++ wX3 q b v13_) X hP13 hD13 hS13 (fun _ h => Or.inr h) hl1.1 (c_X0_readSign l D q H13.size a y67.2 b v13_ y116 hy116) [0, 1, 2, 3, 4, 5, 6, 7, 8, 9, 10, 11, 12, 13] [] [0, 1, 2, 3, 4, 5, 6, 7, 8, 9, 10, 11, 12, 13] rfl (Wr := []) rfl (by decide) (by decide) (by decide) (by decide) (fun _ => rfl) 0 rfl rfl rfl k_470 mX0_readSign ⟨rfl, rfl⟩ ⟨Nat.le_of_ble_eq_true rfl, Nat.le_of_ble_eq_true rfl⟩ rfl rfl (Nat.le_of_ble_eq_true rfl) dX0_readBond_116 ⟨Nat.zero_le _, Nat.zero_le _⟩ (fun H14 locs14 hP hD hS14 => ?_)
          have hP14 : va_P D cls (wX0 q a y116.2 (b 99) ++ wX3 q b v13_) H14 := hP
          have hD14 : va_D (va_A (wX0 q a v (b 99) ++ wX3 q b u) s.heap.size) (wX0 q a y116.2 (b 99) ++ wX3 q b v13_) := hD
          clear hP hD hP13 hD13 hS13
          obtain ⟨hz0, hm⟩ := ckd hm
          have hnz := nz_nar hz0
          exact eWz (Wf := fun (uu : SV × SV) => wX0 q a uu.1 (b 99) ++ wX3 q b uu.2) (u := (y116.2, v13_)) X hr hlocks hnz hP14 hD14 hS14 hm dX0_readBond_119
        · replace hm := tp hm c89
          refine lv_aload_n hx hb dX0_readBond_92 rfl (lv_at hl1 1 rfl) ?_
          refine lv_iconst (v := (3 : Int32)) hx hb dX0_readBond_93 (by decide) ?_
          refine lv_aload_n hx hb dX0_readBond_94 rfl (lv_at hl1 1 rfl) ?_
          refine va_get (D := D) (ci := 0) (v := .int (y67.2 0 6)) (C := RX0) (T := TX0) (N := 13) hx hb hW iX0 hown hK hP9 0 rfl rfl 6 (by decide) (hW _ k_183) (fun _ h => h) rfl dX0_readBond_95 ?_
          obtain ⟨y98, hy98, hm⟩ := bn hm
          refine cVWi (As := [.int (3 : Int32), .int (y67.2 0 6)]) (rest := []) (Wn := fun (uu : SV) => wX0 q a uu (b 99) ++ wX3 q b v9_) X hP9 hD9 hS9 (fun _ h => Or.inr h) hl1.1 (c_X0_refuse l D q H9.size a y67.2 b v9_ (3 : Int32) (y67.2 0 6) y98 hy98) [0, 1, 2, 3, 4, 5, 6, 7, 8, 9, 10, 11, 12, 13] [] [0, 1, 2, 3, 4, 5, 6, 7, 8, 9, 10, 11, 12, 13] rfl (Wr := []) rfl (by decide) (by decide) (by decide) (by decide) (fun _ => rfl) 0 rfl rfl rfl k_374 mX0_refuse ⟨rfl, rfl⟩ ⟨Nat.le_of_ble_eq_true rfl, Nat.le_of_ble_eq_true rfl⟩ rfl rfl (Nat.le_of_ble_eq_true rfl) dX0_readBond_98 ⟨Nat.zero_le _, Nat.zero_le _⟩ (fun H12 locs12 hP hD hS12 => ?_)
          have hP12 : va_P D cls (wX0 q a y98.2 (b 99) ++ wX3 q b v9_) H12 := hP
          have hD12 : va_D (va_A (wX0 q a v (b 99) ++ wX3 q b u) s.heap.size) (wX0 q a y98.2 (b 99) ++ wX3 q b v9_) := hD
          clear hP hD hP9 hD9 hS9
          obtain ⟨hz0, hm⟩ := ckd hm
          have hnz := nz_nar hz0
          exact eWz (Wf := fun (uu : SV × SV) => wX0 q a uu.1 (b 99) ++ wX3 q b uu.2) (u := (y98.2, v9_)) X hr hlocks hnz hP12 hD12 hS12 hm dX0_readBond_101
      · replace hm := tp hm c53
        refine lv_iconst (v := (0 : Int32)) hx hb dX0_readBond_56 (by decide) ?_
        exact eWz (Wf := fun (uu : SV × SV) => wX0 q a uu.1 (b 99) ++ wX3 q b uu.2) (u := (y50.2, v5_)) X hr hlocks rfl hP6 hD6 hS6 hm dX0_readBond_57
    · replace hm := tp hm c29
      refine lv_iconst (v := (0 : Int32)) hx hb dX0_readBond_32 (by decide) ?_
      exact eWz (Wf := fun (uu : SV × SV) => wX0 q a uu.1 (b 99) ++ wX3 q b uu.2) (u := (y26.2, u)) X hr hlocks rfl hP2 hD2 hS2 hm dX0_readBond_33
  · replace hm := tn hm c10
    refine lv_aload_n hx hb dX0_readBond_13 rfl (lv_at hl1 1 rfl) ?_
    refine lv_iconst (v := (5 : Int32)) hx hb dX0_readBond_14 (by decide) ?_
    refine lv_aload_n hx hb dX0_readBond_15 rfl (lv_at hl1 1 rfl) ?_
    refine va_get (D := D) (ci := 0) (v := .int (v 0 6)) (C := RX0) (T := TX0) (N := 13) hx hb hW iX0 hown hK hP0 0 rfl rfl 6 (by decide) (hW _ k_183) (fun _ h => h) rfl dX0_readBond_16 ?_
    obtain ⟨y19, hy19, hm⟩ := bn hm
    refine cVWi (As := [.int (5 : Int32), .int (v 0 6)]) (rest := []) (Wn := fun (uu : SV) => wX0 q a uu (b 99) ++ wX3 q b u) X hP0 hD0 hS0 (fun _ h => Or.inr h) hl1.1 (c_X0_refuse l D q s.heap.size a v b u (5 : Int32) (v 0 6) y19 hy19) [0, 1, 2, 3, 4, 5, 6, 7, 8, 9, 10, 11, 12, 13] [] [0, 1, 2, 3, 4, 5, 6, 7, 8, 9, 10, 11, 12, 13] rfl (Wr := []) rfl (by decide) (by decide) (by decide) (by decide) (fun _ => rfl) 0 rfl rfl rfl k_374 mX0_refuse ⟨rfl, rfl⟩ ⟨Nat.le_of_ble_eq_true rfl, Nat.le_of_ble_eq_true rfl⟩ rfl rfl (Nat.le_of_ble_eq_true rfl) dX0_readBond_19 ⟨Nat.zero_le _, Nat.zero_le _⟩ (fun H15 locs15 hP hD hS15 => ?_)
    have hP15 : va_P D cls (wX0 q a y19.2 (b 99) ++ wX3 q b u) H15 := hP
    have hD15 : va_D (va_A (wX0 q a v (b 99) ++ wX3 q b u) s.heap.size) (wX0 q a y19.2 (b 99) ++ wX3 q b u) := hD
    clear hP hD hP0 hD0 hS0
    obtain ⟨hz0, hm⟩ := ckd hm
    have hnz := nz_nar hz0
    exact eWz (Wf := fun (uu : SV × SV) => wX0 q a uu.1 (b 99) ++ wX3 q b uu.2) (u := (y19.2, u)) X hr hlocks hnz hP15 hD15 hS15 hm dX0_readBond_22
noncomputable def m_X0_readForger_K31 (u : SV) (y25 : Int32 × SV) (z31 : Int32 × SV) : Option (Int32 × SV × SV) :=
  ck (inB (u 0 3) 4) (lett (up2 u 16 (((u 0 3)).toNatClampNeg) y25.1) (fun v10_ => lett (up2 v10_ 0 3 ((v10_ 0 3) + (1 : Int32))) (fun v11_ => (if (z31.2 0 3) = 0 then some ((1 : Int32), z31.2, v11_) else some ((0 : Int32), z31.2, v11_)))))
noncomputable def m_X0_readForger_L31 (y25 : Int32 × SV) (z31 : Int32 × SV) : Option ((Int32 × SV) ⊕ (Int32 × SV)) :=
  (if (5 : Int32) ≤ z31.1 then some (.inr (z31.1, z31.2)) else (if ((y25.1 >>> (z31.1 &&& 31)) &&& (1 : Int32)) = (1 : Int32) then lett (up2 z31.2 0 12 (if (z31.2 0 12) < z31.1 then z31.1 else (z31.2 0 12))) (fun v12_ => some (.inl ((z31.1 + (1 : Int32)), v12_))) else some (.inl ((z31.1 + (1 : Int32)), z31.2))))
noncomputable def m_X0_readForger (v : SV) (u : SV) : Option (Int32 × SV × SV) :=
  (if (u 0 3) < (4 : Int32) then (m_X0_readBits v u (4 : Int32)).bind (fun y25 => (lpC (m_X0_readForger_L31 y25) ((0 : Int32), y25.2)).bind (m_X0_readForger_K31 u y25)) else (m_X0_refuse v u (5 : Int32) (v 0 6)).bind (fun y19 => ck (nzB y19.1) (some (y19.1, y19.2, u))))
set_option maxHeartbeats 4000000 in
set_option maxRecDepth 100000 in
theorem c_X0_readForger (l : Launch) (D : va_G) (q : Nat → ClassId) (sz : Nat) (a : Nat → Nat) (v : SV) (b : Nat → Nat) (u : SV) (res : Int32 × SV × SV) (hm : m_X0_readForger v u = some res) : Met l yX0_readForger (mw yX0_readForger cX0_readForger 4 (some .boolean)) ({ frames := 3, cells := 0, slots := 0, locals := 67 } : Room) (pcW D q (wX0 q a v (b 99) ++ wX3 q b u) sz [.ref (a 99)]) (va_Qi (fun r w => r = res.1 ∧ w = res.2) (bW D q (wX0 q a v (b 99) ++ wX3 q b u) sz (fun (uu : SV × SV) => wX0 q a uu.1 (b 99) ++ wX3 q b uu.2)) (va_A (wX0 q a v (b 99) ++ wX3 q b u) sz)) 0 0 (va_A (wX0 q a v (b 99) ++ wX3 q b u) sz) := by
  refine Met.ofW (cc := cX0_readForger) (maxL := 4) (ret := (some .boolean)) (by decide) rfl ?_
  intro p e s m args below meth c s₁ B hml hv
  obtain ⟨rfl, hsz, hP0, hK, hD0⟩ := hv
  have hx := B.exec
  have hb := B.bytes
  have hr := B.returns
  have hW := mw_ws (atoms_spec (ws := mw yX0_readForger cX0_readForger 4 (some .boolean)) B.pre)
  have hown : s.vm.findClass RX0 = some m.cls := findClass_of_methodNamed B.named
  have hlocks := B.notSynchronized
  have X : Cx p s m [.ref (a 99)].toArray c cX0_readForger 4 RX0 D q := ⟨hx, hb, hml, hown, hW, hK⟩
  subst hsz
  replace hD0 := hD0.self (sz := s.heap.size)
  have hS0 : va_S (va_A (wX0 q a v (b 99) ++ wX3 q b u) s.heap.size) s.heap s.heap [] := va_S.rf
  have hl0 := lv_entry ([.ref (a 99)]) (n := 4) (Nat.le_of_ble_eq_true rfl)
  rw [lg_entry_eq]
  generalize (lg_sl ([.ref (a 99)]) ++ List.replicate (4 - (lg_sl ([.ref (a 99)])).length) Slot.unset).toArray = ls0 at hl0 ⊢
  have hl0 : lv_has ls0 4 [(0, .ref (a 99))] := hl0
  unfold m_X0_readForger at hm
  refine lv_aload_n hx hb dX0_readForger_0 rfl (lv_at hl0 0 rfl) ?_
  refine va_get (D := D) (ci := 0) (v := .ref (b 99)) (C := RX0) (T := TX0) (N := 13) hx hb hW iX0 hown hK hP0 0 rfl rfl 2 (by decide) (hW _ k_177) (fun _ h => h) rfl dX0_readForger_1 ?_
  refine va_get (D := D) (ci := 3) (v := .int (u 0 3)) (C := RX3) (T := TX3) (N := 17) hx hb hW iX3 hown hK hP0 2 rfl rfl 3 (by decide) (hW _ k_96) (fun _ h => h) rfl dX0_readForger_4 ?_
  refine lv_istore_n (lv' := [(1, .int (u 0 3)), (0, .ref (a 99))]) hx hb dX0_readForger_7 rfl hl0 (by decide) rfl (fun ls1 hl1 => ?_)
  clear hl0
  refine lv_iload_n hx hb dX0_readForger_8 rfl (lv_at hl1 0 rfl) ?_
  refine lv_iconst (v := (4 : Int32)) hx hb dX0_readForger_9 (by decide) ?_
  refine lv_icmp_lt (tgt := 23) hx hb dX0_readForger_10 (by decide) (fun c10 => ?_) (fun c10 => ?_)
  · replace hm := tp hm c10
    refine lv_aload_n hx hb dX0_readForger_23 rfl (lv_at hl1 1 rfl) ?_
    refine lv_iconst (v := (4 : Int32)) hx hb dX0_readForger_24 (by decide) ?_
    obtain ⟨y25, hy25, hm⟩ := bn hm
    refine cVWi (As := [.int (4 : Int32)]) (rest := []) (Wn := fun (uu : SV) => wX0 q a uu (b 99) ++ wX3 q b u) X hP0 hD0 hS0 (fun _ h => Or.inr h) hl1.1 (c_X0_readBits l D q s.heap.size a v b u (4 : Int32) y25 hy25) [0, 1, 2, 3, 4, 5, 6, 7, 8, 9, 10, 11, 12, 13] [] [0, 1, 2, 3, 4, 5, 6, 7, 8, 9, 10, 11, 12, 13] rfl (Wr := []) rfl (by decide) (by decide) (by decide) (by decide) (fun _ => rfl) 0 rfl rfl rfl k_462 mX0_readBits ⟨rfl, rfl⟩ ⟨Nat.le_of_ble_eq_true rfl, Nat.le_of_ble_eq_true rfl⟩ rfl rfl (Nat.le_of_ble_eq_true rfl) dX0_readForger_25 ⟨Nat.zero_le _, Nat.zero_le _⟩ (fun H2 locs2 hP hD hS2 => ?_)
    have hP2 : va_P D cls (wX0 q a y25.2 (b 99) ++ wX3 q b u) H2 := hP
    have hD2 : va_D (va_A (wX0 q a v (b 99) ++ wX3 q b u) s.heap.size) (wX0 q a y25.2 (b 99) ++ wX3 q b u) := hD
    clear hP hD hP0 hD0 hS0
    refine lv_istore_n (lv' := [(2, .int y25.1), (1, .int (u 0 3)), (0, .ref (a 99))]) hx hb dX0_readForger_28 rfl hl1 (by decide) rfl (fun ls3 hl3 => ?_)
    clear hl1
    refine lv_iconst (v := (0 : Int32)) hx hb dX0_readForger_29 (by decide) ?_
    refine lv_istore_n (lv' := [(3, .int (0 : Int32)), (2, .int y25.1), (1, .int (u 0 3)), (0, .ref (a 99))]) hx hb dX0_readForger_30 rfl hl3 (by decide) rfl (fun ls4 hl4 => ?_)
    clear hl3
    obtain ⟨r31, hr31, hm⟩ := bn hm
    obtain ⟨n31, hn31⟩ := lpC_ex hr31
    have hE31 : ∀ z31 : Int32 × SV, m_X0_readForger_K31 u y25 z31 = some res → ∀ (H : Heap) (locs : List Loc), va_P D cls (wX0 q a z31.2 (b 99) ++ wX3 q b u) H → va_D (va_A (wX0 q a v (b 99) ++ wX3 q b u) s.heap.size) (wX0 q a z31.2 (b 99) ++ wX3 q b u) → va_S (va_A (wX0 q a v (b 99) ++ wX3 q b u) s.heap.size) s.heap H locs → ∀ ls : Array Slot, lv_has ls 4 [(2, .int y25.1), (1, .int (u 0 3)), (0, .ref (a 99))] → W p l e ((headSpec (mw yX0_readForger cX0_readForger 4 (some .boolean)) ({ frames := 3, cells := 0, slots := 0, locals := 67 } : Room)).room) s m [.ref (a 99)].toArray below meth c H locs 0 0 (MQ below (va_Qi (fun r w => r = res.1 ∧ w = res.2) (bW D q (wX0 q a v (b 99) ++ wX3 q b u) s.heap.size (fun (uu : SV × SV) => wX0 q a uu.1 (b 99) ++ wX3 q b uu.2)) (va_A (wX0 q a v (b 99) ++ wX3 q b u) s.heap.size)) [.ref (a 99)].toArray s 0 0 (va_A (wX0 q a v (b 99) ++ wX3 q b u) s.heap.size)) (F0 m 63 ls []) := by
      intro z31 hm H8 locs8 hP8 hD8 hS8 ls7 hl7
      unfold m_X0_readForger_K31 at hm
      refine lv_aload_n hx hb dX0_readForger_63 rfl (lv_at hl7 2 rfl) ?_
      refine va_get (D := D) (ci := 0) (v := .ref (b 99)) (C := RX0) (T := TX0) (N := 13) hx hb hW iX0 hown hK hP8 0 rfl rfl 2 (by decide) (hW _ k_177) (fun _ h => h) rfl dX0_readForger_64 ?_
      refine va_get (D := D) (ci := 3) (v := .ref (b 16)) (C := RX3) (T := TX3) (N := 17) hx hb hW iX3 hown hK hP8 2 rfl rfl 16 (by decide) (hW _ k_135) (fun _ h => h) rfl dX0_readForger_67 ?_
      refine lv_iload_n hx hb dX0_readForger_70 rfl (lv_at hl7 1 rfl) ?_
      refine lv_iload_n hx hb dX0_readForger_71 rfl (lv_at hl7 0 rfl) ?_
      obtain ⟨h9, hm⟩ := ckd hm
      refine va_iast (f := (u 16)) hx hb hK hP8 hD8 hS8 13 0 rfl rfl (inB_vp h9) dX0_readForger_72 (fun H10 locs10 hP hD hS10 => ?_)
      obtain ⟨v10_, e10, hm⟩ := ltd hm
      have hP10 : va_P D cls (wX0 q a z31.2 (b 99) ++ wX3 q b v10_) H10 := by rw [e10]; exact hP
      have hD10 : va_D (va_A (wX0 q a v (b 99) ++ wX3 q b u) s.heap.size) (wX0 q a z31.2 (b 99) ++ wX3 q b v10_) := by rw [e10]; exact hD
      clear hP hD hP8 hD8 hS8
      refine lv_aload_n hx hb dX0_readForger_73 rfl (lv_at hl7 2 rfl) ?_
      refine va_get (D := D) (ci := 0) (v := .ref (b 99)) (C := RX0) (T := TX0) (N := 13) hx hb hW iX0 hown hK hP10 0 rfl rfl 2 (by decide) (hW _ k_177) (fun _ h => h) rfl dX0_readForger_74 ?_
      refine lv_dup hx hb dX0_readForger_77 rfl ?_
      refine va_get (D := D) (ci := 3) (v := .int (v10_ 0 3)) (C := RX3) (T := TX3) (N := 17) hx hb hW iX3 hown hK hP10 2 rfl rfl 3 (by decide) (hW _ k_96) (fun _ h => h) rfl dX0_readForger_78 ?_
      refine lv_iconst (v := (1 : Int32)) hx hb dX0_readForger_81 (by decide) ?_
      refine lv_iadd hx hb dX0_readForger_82 ?_
      refine va_put (D := D) (ci := 3) (v := .int ((v10_ 0 3) + (1 : Int32))) (ty := .int) (C := RX3) (T := TX3) (N := 17) hx hb hW iX3 tyX3 tyX3_ok nmX3 hown hK hP10 hD10 hS10 2 rfl rfl 3 (by decide) (hW _ k_96) (fun _ h => h) rfl (by decide +kernel) rfl rfl (Nat.le_of_ble_eq_true rfl) dX0_readForger_83 (fun H11 locs11 hP hD hS11 => ?_)
      obtain ⟨v11_, e11, hm⟩ := ltd hm
      have hP11 : va_P D cls (wX0 q a z31.2 (b 99) ++ wX3 q b v11_) H11 := by rw [e11]; exact hP
      have hD11 : va_D (va_A (wX0 q a v (b 99) ++ wX3 q b u) s.heap.size) (wX0 q a z31.2 (b 99) ++ wX3 q b v11_) := by rw [e11]; exact hD
      clear hP hD hP10 hD10 hS10
      refine lv_aload_n hx hb dX0_readForger_86 rfl (lv_at hl7 2 rfl) ?_
      refine va_get (D := D) (ci := 0) (v := .int (z31.2 0 3)) (C := RX0) (T := TX0) (N := 13) hx hb hW iX0 hown hK hP11 0 rfl rfl 3 (by decide) (hW _ k_179) (fun _ h => h) rfl dX0_readForger_87 ?_
      refine lv_if_ne (tgt := 97) hx hb dX0_readForger_90 (by decide) (fun c90 => ?_) (fun c90 => ?_)
      · replace hm := tn hm c90
        refine lv_iconst (v := (0 : Int32)) hx hb dX0_readForger_97 (by decide) ?_
        exact eWz (Wf := fun (uu : SV × SV) => wX0 q a uu.1 (b 99) ++ wX3 q b uu.2) (u := (z31.2, v11_)) X hr hlocks rfl hP11 hD11 hS11 hm dX0_readForger_98
      · replace hm := tp hm c90
        refine lv_iconst (v := (1 : Int32)) hx hb dX0_readForger_93 (by decide) ?_
        refine lv_goto (tgt := 98) hx hb dX0_readForger_94 (by decide) ?_
        exact eWz (Wf := fun (uu : SV × SV) => wX0 q a uu.1 (b 99) ++ wX3 q b uu.2) (u := (z31.2, v11_)) X hr hlocks rfl hP11 hD11 hS11 hm dX0_readForger_98
    have hL31 : ∀ (n : Nat) (z31 : Int32 × SV) (ρ31 : Int32 × SV), lpO (m_X0_readForger_L31 y25) n z31 = some ρ31 → (m_X0_readForger_K31 u y25) ρ31 = some res → ∀ (H : Heap) (locs : List Loc), va_P D cls (wX0 q a z31.2 (b 99) ++ wX3 q b u) H → va_D (va_A (wX0 q a v (b 99) ++ wX3 q b u) s.heap.size) (wX0 q a z31.2 (b 99) ++ wX3 q b u) → va_S (va_A (wX0 q a v (b 99) ++ wX3 q b u) s.heap.size) s.heap H locs → ∀ ls : Array Slot, lv_has ls 4 [(2, .int y25.1), (1, .int (u 0 3)), (0, .ref (a 99)), (3, .int z31.1)] → W p l e ((headSpec (mw yX0_readForger cX0_readForger 4 (some .boolean)) ({ frames := 3, cells := 0, slots := 0, locals := 67 } : Room)).room) s m [.ref (a 99)].toArray below meth c H locs 0 0 (MQ below (va_Qi (fun r w => r = res.1 ∧ w = res.2) (bW D q (wX0 q a v (b 99) ++ wX3 q b u) s.heap.size (fun (uu : SV × SV) => wX0 q a uu.1 (b 99) ++ wX3 q b uu.2)) (va_A (wX0 q a v (b 99) ++ wX3 q b u) s.heap.size)) [.ref (a 99)].toArray s 0 0 (va_A (wX0 q a v (b 99) ++ wX3 q b u) s.heap.size)) (F0 m 31 ls []) := by
      intro n
      induction n with
      | zero => intro _ _ h; cases h
      | succ n ih31 =>
        intro z31 ρ31 hz31 hK31 H6 locs6 hP6 hD6 hS6 ls5 hl5
        obtain ⟨t31, hm, hz31⟩ := bn hz31
        unfold m_X0_readForger_L31 at hm
        refine lv_iload_n hx hb dX0_readForger_31 rfl (lv_at hl5 3 rfl) ?_
        refine lv_iconst (v := (5 : Int32)) hx hb dX0_readForger_32 (by decide) ?_
        refine lv_icmp_ge (tgt := 63) hx hb dX0_readForger_33 (by decide) (fun c33 => ?_) (fun c33 => ?_)
        · replace hm := tp hm c33
          cases hm
          cases hz31
          exact hE31 (z31.1, z31.2) hK31 _ _ hP6 hD6 hS6 _ (lv_sub hl5 [0, 1, 2] rfl)
        · replace hm := tn hm c33
          refine lv_iload_n hx hb dX0_readForger_36 rfl (lv_at hl5 0 rfl) ?_
          refine lv_iload_n hx hb dX0_readForger_37 rfl (lv_at hl5 3 rfl) ?_
          refine lv_ishr hx hb dX0_readForger_38 ?_
          refine lv_iconst (v := (1 : Int32)) hx hb dX0_readForger_39 (by decide) ?_
          refine lv_iand hx hb dX0_readForger_40 ?_
          refine lv_iconst (v := (1 : Int32)) hx hb dX0_readForger_41 (by decide) ?_
          refine lv_icmp_ne (tgt := 57) hx hb dX0_readForger_42 (by decide) (fun c42 => ?_) (fun c42 => ?_)
          · replace hm := tn hm c42
            refine lv_iinc (v := (z31.1 + (1 : Int32))) (lv' := [(3, .int (z31.1 + (1 : Int32))), (2, .int y25.1), (1, .int (u 0 3)), (0, .ref (a 99))]) hx hb dX0_readForger_57 hl5 (k := 3) rfl rfl (by decide) rfl (fun ls14 hl14 => ?_)
            clear hl5
            refine lv_goto (tgt := 31) hx hb dX0_readForger_60 (by decide) ?_
            cases hm
            exact ih31 ((z31.1 + (1 : Int32)), z31.2) ρ31 hz31 hK31 _ _ hP6 hD6 hS6 _ (lv_sub hl14 [1, 2, 3, 0] rfl)
          · replace hm := tp hm c42
            refine lv_aload_n hx hb dX0_readForger_45 rfl (lv_at hl5 2 rfl) ?_
            refine lv_aload_n hx hb dX0_readForger_46 rfl (lv_at hl5 2 rfl) ?_
            refine va_get (D := D) (ci := 0) (v := .int (z31.2 0 12)) (C := RX0) (T := TX0) (N := 13) hx hb hW iX0 hown hK hP6 0 rfl rfl 12 (by decide) (hW _ k_189) (fun _ h => h) rfl dX0_readForger_47 ?_
            refine lv_iload_n hx hb dX0_readForger_50 rfl (lv_at hl5 3 rfl) ?_
            refine va_mmax hx hb (by rw [X.2.2.1]; exact hl5.1.symm) hown (hW _ k_482) (hW _ k_483) (hW _ k_52) (hW _ k_484) (by exact Nat.le_of_ble_eq_true rfl) (by exact Nat.le_of_ble_eq_true rfl) (Nat.zero_le _) (Nat.zero_le _) dX0_readForger_51 ?_
            refine va_put (D := D) (ci := 0) (v := .int (if (z31.2 0 12) < z31.1 then z31.1 else (z31.2 0 12))) (ty := .int) (C := RX0) (T := TX0) (N := 13) hx hb hW iX0 tyX0 tyX0_ok nmX0 hown hK hP6 hD6 hS6 0 rfl rfl 12 (by decide) (hW _ k_189) (fun _ h => h) rfl (by decide +kernel) rfl rfl (Nat.le_of_ble_eq_true rfl) dX0_readForger_54 (fun H12 locs12 hP hD hS12 => ?_)
            obtain ⟨v12_, e12, hm⟩ := ltd hm
            have hP12 : va_P D cls (wX0 q a v12_ (b 99) ++ wX3 q b u) H12 := by rw [e12]; exact hP
            have hD12 : va_D (va_A (wX0 q a v (b 99) ++ wX3 q b u) s.heap.size) (wX0 q a v12_ (b 99) ++ wX3 q b u) := by rw [e12]; exact hD
            clear hP hD hP6 hD6 hS6
            refine lv_iinc (v := (z31.1 + (1 : Int32))) (lv' := [(3, .int (z31.1 + (1 : Int32))), (2, .int y25.1), (1, .int (u 0 3)), (0, .ref (a 99))]) hx hb dX0_readForger_57 hl5 (k := 3) rfl rfl (by decide) rfl (fun ls13 hl13 => ?_)
            clear hl5
            refine lv_goto (tgt := 31) hx hb dX0_readForger_60 (by decide) ?_
            cases hm
            exact ih31 ((z31.1 + (1 : Int32)), v12_) ρ31 hz31 hK31 _ _ hP12 hD12 hS12 _ (lv_sub hl13 [1, 2, 3, 0] rfl)
    exact hL31 n31 ((0 : Int32), y25.2) r31 hn31 hm _ _ hP2 hD2 hS2 _ (lv_sub hl4 [1, 2, 3, 0] rfl)
  · replace hm := tn hm c10
    refine lv_aload_n hx hb dX0_readForger_13 rfl (lv_at hl1 1 rfl) ?_
    refine lv_iconst (v := (5 : Int32)) hx hb dX0_readForger_14 (by decide) ?_
    refine lv_aload_n hx hb dX0_readForger_15 rfl (lv_at hl1 1 rfl) ?_
    refine va_get (D := D) (ci := 0) (v := .int (v 0 6)) (C := RX0) (T := TX0) (N := 13) hx hb hW iX0 hown hK hP0 0 rfl rfl 6 (by decide) (hW _ k_183) (fun _ h => h) rfl dX0_readForger_16 ?_
    obtain ⟨y19, hy19, hm⟩ := bn hm
    refine cVWi (As := [.int (5 : Int32), .int (v 0 6)]) (rest := []) (Wn := fun (uu : SV) => wX0 q a uu (b 99) ++ wX3 q b u) X hP0 hD0 hS0 (fun _ h => Or.inr h) hl1.1 (c_X0_refuse l D q s.heap.size a v b u (5 : Int32) (v 0 6) y19 hy19) [0, 1, 2, 3, 4, 5, 6, 7, 8, 9, 10, 11, 12, 13] [] [0, 1, 2, 3, 4, 5, 6, 7, 8, 9, 10, 11, 12, 13] rfl (Wr := []) rfl (by decide) (by decide) (by decide) (by decide) (fun _ => rfl) 0 rfl rfl rfl k_374 mX0_refuse ⟨rfl, rfl⟩ ⟨Nat.le_of_ble_eq_true rfl, Nat.le_of_ble_eq_true rfl⟩ rfl rfl (Nat.le_of_ble_eq_true rfl) dX0_readForger_19 ⟨Nat.zero_le _, Nat.zero_le _⟩ (fun H15 locs15 hP hD hS15 => ?_)
    have hP15 : va_P D cls (wX0 q a y19.2 (b 99) ++ wX3 q b u) H15 := hP
    have hD15 : va_D (va_A (wX0 q a v (b 99) ++ wX3 q b u) s.heap.size) (wX0 q a y19.2 (b 99) ++ wX3 q b u) := hD
    clear hP hD hP0 hD0 hS0
    obtain ⟨hz0, hm⟩ := ckd hm
    have hnz := nz_nar hz0
    exact eWz (Wf := fun (uu : SV × SV) => wX0 q a uu.1 (b 99) ++ wX3 q b uu.2) (u := (y19.2, u)) X hr hlocks hnz hP15 hD15 hS15 hm dX0_readForger_22
noncomputable def m_X0_readPaint (v : SV) (u : SV) : Option (Int32 × SV × SV) :=
  (m_X0_readNumber v u (0 : Int32) (5 : Int32)).bind (fun y3 => (if y3.1 = 0 then some ((0 : Int32), y3.2, u) else (m_X0_notePart y3.2 u).bind (fun y12 => ck (inB y12.1 6) ((if (u 7 ((y12.1).toNatClampNeg)) < (4 : Int32) then (m_X0_readNumber y12.2 u (0 : Int32) (4 : Int32)).bind (fun y42 => (if y42.1 = 0 then some ((0 : Int32), y42.2, u) else lett (up2 y42.2 0 12 (if (y42.2 0 12) < (y42.2 0 8) then (y42.2 0 8) else (y42.2 0 12))) (fun v6_ => (m_X3_cover u y12.1 (v6_ 0 8)).bind (fun y74 => (m_X0_readSign v6_ y74).bind (fun y78 => ck (nzB y78.1) (some (y78.1, y78.2, y74))))))) else (m_X0_refuse y12.2 u (5 : Int32) (y12.2 0 6)).bind (fun y35 => ck (nzB y35.1) (some (y35.1, y35.2, u))))))))
set_option maxHeartbeats 4000000 in
set_option maxRecDepth 100000 in
theorem c_X0_readPaint (l : Launch) (D : va_G) (q : Nat → ClassId) (sz : Nat) (a : Nat → Nat) (v : SV) (b : Nat → Nat) (u : SV) (res : Int32 × SV × SV) (hm : m_X0_readPaint v u = some res) : Met l yX0_readPaint (mw yX0_readPaint cX0_readPaint 2 (some .boolean)) ({ frames := 3, cells := 0, slots := 0, locals := 83 } : Room) (pcW D q (wX0 q a v (b 99) ++ wX3 q b u) sz [.ref (a 99)]) (va_Qi (fun r w => r = res.1 ∧ w = res.2) (bW D q (wX0 q a v (b 99) ++ wX3 q b u) sz (fun (uu : SV × SV) => wX0 q a uu.1 (b 99) ++ wX3 q b uu.2)) (va_A (wX0 q a v (b 99) ++ wX3 q b u) sz)) 0 0 (va_A (wX0 q a v (b 99) ++ wX3 q b u) sz) := by
  refine Met.ofW (cc := cX0_readPaint) (maxL := 2) (ret := (some .boolean)) (by decide) rfl ?_
  intro p e s m args below meth c s₁ B hml hv
  obtain ⟨rfl, hsz, hP0, hK, hD0⟩ := hv
  have hx := B.exec
  have hb := B.bytes
  have hr := B.returns
  have hW := mw_ws (atoms_spec (ws := mw yX0_readPaint cX0_readPaint 2 (some .boolean)) B.pre)
  have hown : s.vm.findClass RX0 = some m.cls := findClass_of_methodNamed B.named
  have hlocks := B.notSynchronized
  have X : Cx p s m [.ref (a 99)].toArray c cX0_readPaint 2 RX0 D q := ⟨hx, hb, hml, hown, hW, hK⟩
  subst hsz
  replace hD0 := hD0.self (sz := s.heap.size)
  have hS0 : va_S (va_A (wX0 q a v (b 99) ++ wX3 q b u) s.heap.size) s.heap s.heap [] := va_S.rf
  have hl0 := lv_entry ([.ref (a 99)]) (n := 2) (Nat.le_of_ble_eq_true rfl)
  rw [lg_entry_eq]
  generalize (lg_sl ([.ref (a 99)]) ++ List.replicate (2 - (lg_sl ([.ref (a 99)])).length) Slot.unset).toArray = ls0 at hl0 ⊢
  have hl0 : lv_has ls0 2 [(0, .ref (a 99))] := hl0
  unfold m_X0_readPaint at hm
  refine lv_aload_n hx hb dX0_readPaint_0 rfl (lv_at hl0 0 rfl) ?_
  refine lv_iconst (v := (0 : Int32)) hx hb dX0_readPaint_1 (by decide) ?_
  refine lv_iconst (v := (5 : Int32)) hx hb dX0_readPaint_2 (by decide) ?_
  obtain ⟨y3, hy3, hm⟩ := bn hm
  refine cVWi (As := [.int (0 : Int32), .int (5 : Int32)]) (rest := []) (Wn := fun (uu : SV) => wX0 q a uu (b 99) ++ wX3 q b u) X hP0 hD0 hS0 (fun _ h => Or.inr h) hl0.1 (c_X0_readNumber l D q s.heap.size a v b u (0 : Int32) (5 : Int32) y3 hy3) [0, 1, 2, 3, 4, 5, 6, 7, 8, 9, 10, 11, 12, 13] [] [0, 1, 2, 3, 4, 5, 6, 7, 8, 9, 10, 11, 12, 13] rfl (Wr := []) rfl (by decide) (by decide) (by decide) (by decide) (fun _ => rfl) 0 rfl rfl rfl k_454 mX0_readNumber ⟨rfl, rfl⟩ ⟨Nat.le_of_ble_eq_true rfl, Nat.le_of_ble_eq_true rfl⟩ rfl rfl (Nat.le_of_ble_eq_true rfl) dX0_readPaint_3 ⟨Nat.zero_le _, Nat.zero_le _⟩ (fun H1 locs1 hP hD hS1 => ?_)
  have hP1 : va_P D cls (wX0 q a y3.2 (b 99) ++ wX3 q b u) H1 := hP
  have hD1 : va_D (va_A (wX0 q a v (b 99) ++ wX3 q b u) s.heap.size) (wX0 q a y3.2 (b 99) ++ wX3 q b u) := hD
  clear hP hD hP0 hD0 hS0
  refine lv_if_ne (tgt := 11) hx hb dX0_readPaint_6 (by decide) (fun c6 => ?_) (fun c6 => ?_)
  · replace hm := tn hm c6
    refine lv_aload_n hx hb dX0_readPaint_11 rfl (lv_at hl0 0 rfl) ?_
    obtain ⟨y12, hy12, hm⟩ := bn hm
    refine cVWi (As := []) (rest := []) (Wn := fun (uu : SV) => wX0 q a uu (b 99) ++ wX3 q b u) X hP1 hD1 hS1 (fun _ h => Or.inr h) hl0.1 (c_X0_notePart l D q H1.size a y3.2 b u y12 hy12) [0, 1, 2, 3, 4, 5, 6, 7, 8, 9, 10, 11, 12, 13] [] [0, 1, 2, 3, 4, 5, 6, 7, 8, 9, 10, 11, 12, 13] rfl (Wr := []) rfl (by decide) (by decide) (by decide) (by decide) (fun _ => rfl) 0 rfl rfl rfl k_478 mX0_notePart ⟨rfl, rfl⟩ ⟨Nat.le_of_ble_eq_true rfl, Nat.le_of_ble_eq_true rfl⟩ rfl rfl (Nat.le_of_ble_eq_true rfl) dX0_readPaint_12 ⟨Nat.zero_le _, Nat.zero_le _⟩ (fun H2 locs2 hP hD hS2 => ?_)
    have hP2 : va_P D cls (wX0 q a y12.2 (b 99) ++ wX3 q b u) H2 := hP
    have hD2 : va_D (va_A (wX0 q a v (b 99) ++ wX3 q b u) s.heap.size) (wX0 q a y12.2 (b 99) ++ wX3 q b u) := hD
    clear hP hD hP1 hD1 hS1
    refine lv_istore_n (lv' := [(1, .int y12.1), (0, .ref (a 99))]) hx hb dX0_readPaint_15 rfl hl0 (by decide) rfl (fun ls3 hl3 => ?_)
    clear hl0
    refine lv_aload_n hx hb dX0_readPaint_16 rfl (lv_at hl3 1 rfl) ?_
    refine va_get (D := D) (ci := 0) (v := .ref (b 99)) (C := RX0) (T := TX0) (N := 13) hx hb hW iX0 hown hK hP2 0 rfl rfl 2 (by decide) (hW _ k_177) (fun _ h => h) rfl dX0_readPaint_17 ?_
    refine va_get (D := D) (ci := 3) (v := .ref (b 7)) (C := RX3) (T := TX3) (N := 17) hx hb hW iX3 hown hK hP2 2 rfl rfl 7 (by decide) (hW _ k_107) (fun _ h => h) rfl dX0_readPaint_20 ?_
    refine lv_iload_n hx hb dX0_readPaint_23 rfl (lv_at hl3 0 rfl) ?_
    obtain ⟨h4, hm⟩ := ckd hm
    refine va_iald (f := (u 7)) hx hb hK hP2 4 0 rfl rfl (inB_vp h4) dX0_readPaint_24 ?_
    refine lv_iconst (v := (4 : Int32)) hx hb dX0_readPaint_25 (by decide) ?_
    refine lv_icmp_lt (tgt := 39) hx hb dX0_readPaint_26 (by decide) (fun c26 => ?_) (fun c26 => ?_)
    · replace hm := tp hm c26
      refine lv_aload_n hx hb dX0_readPaint_39 rfl (lv_at hl3 1 rfl) ?_
      refine lv_iconst (v := (0 : Int32)) hx hb dX0_readPaint_40 (by decide) ?_
      refine lv_iconst (v := (4 : Int32)) hx hb dX0_readPaint_41 (by decide) ?_
      obtain ⟨y42, hy42, hm⟩ := bn hm
      refine cVWi (As := [.int (0 : Int32), .int (4 : Int32)]) (rest := []) (Wn := fun (uu : SV) => wX0 q a uu (b 99) ++ wX3 q b u) X hP2 hD2 hS2 (fun _ h => Or.inr h) hl3.1 (c_X0_readNumber l D q H2.size a y12.2 b u (0 : Int32) (4 : Int32) y42 hy42) [0, 1, 2, 3, 4, 5, 6, 7, 8, 9, 10, 11, 12, 13] [] [0, 1, 2, 3, 4, 5, 6, 7, 8, 9, 10, 11, 12, 13] rfl (Wr := []) rfl (by decide) (by decide) (by decide) (by decide) (fun _ => rfl) 0 rfl rfl rfl k_454 mX0_readNumber ⟨rfl, rfl⟩ ⟨Nat.le_of_ble_eq_true rfl, Nat.le_of_ble_eq_true rfl⟩ rfl rfl (Nat.le_of_ble_eq_true rfl) dX0_readPaint_42 ⟨Nat.zero_le _, Nat.zero_le _⟩ (fun H5 locs5 hP hD hS5 => ?_)
      have hP5 : va_P D cls (wX0 q a y42.2 (b 99) ++ wX3 q b u) H5 := hP
      have hD5 : va_D (va_A (wX0 q a v (b 99) ++ wX3 q b u) s.heap.size) (wX0 q a y42.2 (b 99) ++ wX3 q b u) := hD
      clear hP hD hP2 hD2 hS2
      refine lv_if_ne (tgt := 50) hx hb dX0_readPaint_45 (by decide) (fun c45 => ?_) (fun c45 => ?_)
      · replace hm := tn hm c45
        refine lv_aload_n hx hb dX0_readPaint_50 rfl (lv_at hl3 1 rfl) ?_
        refine lv_aload_n hx hb dX0_readPaint_51 rfl (lv_at hl3 1 rfl) ?_
        refine va_get (D := D) (ci := 0) (v := .int (y42.2 0 12)) (C := RX0) (T := TX0) (N := 13) hx hb hW iX0 hown hK hP5 0 rfl rfl 12 (by decide) (hW _ k_189) (fun _ h => h) rfl dX0_readPaint_52 ?_
        refine lv_aload_n hx hb dX0_readPaint_55 rfl (lv_at hl3 1 rfl) ?_
        refine va_get (D := D) (ci := 0) (v := .int (y42.2 0 8)) (C := RX0) (T := TX0) (N := 13) hx hb hW iX0 hown hK hP5 0 rfl rfl 8 (by decide) (hW _ k_185) (fun _ h => h) rfl dX0_readPaint_56 ?_
        refine va_mmax hx hb (by rw [X.2.2.1]; exact hl3.1.symm) hown (hW _ k_482) (hW _ k_483) (hW _ k_52) (hW _ k_484) (by exact Nat.le_of_ble_eq_true rfl) (by exact Nat.le_of_ble_eq_true rfl) (Nat.zero_le _) (Nat.zero_le _) dX0_readPaint_59 ?_
        refine va_put (D := D) (ci := 0) (v := .int (if (y42.2 0 12) < (y42.2 0 8) then (y42.2 0 8) else (y42.2 0 12))) (ty := .int) (C := RX0) (T := TX0) (N := 13) hx hb hW iX0 tyX0 tyX0_ok nmX0 hown hK hP5 hD5 hS5 0 rfl rfl 12 (by decide) (hW _ k_189) (fun _ h => h) rfl (by decide +kernel) rfl rfl (Nat.le_of_ble_eq_true rfl) dX0_readPaint_62 (fun H6 locs6 hP hD hS6 => ?_)
        obtain ⟨v6_, e6, hm⟩ := ltd hm
        have hP6 : va_P D cls (wX0 q a v6_ (b 99) ++ wX3 q b u) H6 := by rw [e6]; exact hP
        have hD6 : va_D (va_A (wX0 q a v (b 99) ++ wX3 q b u) s.heap.size) (wX0 q a v6_ (b 99) ++ wX3 q b u) := by rw [e6]; exact hD
        clear hP hD hP5 hD5 hS5
        refine lv_aload_n hx hb dX0_readPaint_65 rfl (lv_at hl3 1 rfl) ?_
        refine va_get (D := D) (ci := 0) (v := .ref (b 99)) (C := RX0) (T := TX0) (N := 13) hx hb hW iX0 hown hK hP6 0 rfl rfl 2 (by decide) (hW _ k_177) (fun _ h => h) rfl dX0_readPaint_66 ?_
        refine lv_iload_n hx hb dX0_readPaint_69 rfl (lv_at hl3 0 rfl) ?_
        refine lv_aload_n hx hb dX0_readPaint_70 rfl (lv_at hl3 1 rfl) ?_
        refine va_get (D := D) (ci := 0) (v := .int (v6_ 0 8)) (C := RX0) (T := TX0) (N := 13) hx hb hW iX0 hown hK hP6 0 rfl rfl 8 (by decide) (hW _ k_185) (fun _ h => h) rfl dX0_readPaint_71 ?_
        obtain ⟨y74, hy74, hm⟩ := bn hm
        refine cVWv (As := [.int y12.1, .int (v6_ 0 8)]) (rest := []) (Wn := fun (uu : SV) => wX0 q a v6_ (b 99) ++ wX3 q b uu) X hP6 hD6 hS6 (fun _ h => Or.inr h) hl3.1 (c_X3_cover l D q H6.size b u y12.1 (v6_ 0 8) y74 hy74) [2, 3, 4, 5, 6, 7, 8, 9, 10, 11, 12, 13] [0, 1] [0, 1, 2, 3, 4, 5, 6, 7, 8, 9, 10, 11, 12, 13] rfl (Wr := wX0 q a v6_ (b 99)) rfl (by decide) (by decide) (by decide) (by decide) (fun _ => rfl) 2 rfl rfl rfl k_497 mX3_cover ⟨rfl, rfl⟩ ⟨Nat.le_of_ble_eq_true rfl, Nat.le_of_ble_eq_true rfl⟩ rfl rfl (Nat.le_of_ble_eq_true rfl) dX0_readPaint_74 ⟨Nat.zero_le _, Nat.zero_le _⟩ (fun H7 locs7 hP hD hS7 => ?_)
        have hP7 : va_P D cls (wX0 q a v6_ (b 99) ++ wX3 q b y74) H7 := hP
        have hD7 : va_D (va_A (wX0 q a v (b 99) ++ wX3 q b u) s.heap.size) (wX0 q a v6_ (b 99) ++ wX3 q b y74) := hD
        clear hP hD hP6 hD6 hS6
        refine lv_aload_n hx hb dX0_readPaint_77 rfl (lv_at hl3 1 rfl) ?_
        obtain ⟨y78, hy78, hm⟩ := bn hm
        refine cVWi (As := []) (rest := []) (Wn := fun (uu : SV) => wX0 q a uu (b 99) ++ wX3 q b y74) X hP7 hD7 hS7 (fun _ h => Or.inr h) hl3.1 (c_X0_readSign l D q H7.size a v6_ b y74 y78 hy78) [0, 1, 2, 3, 4, 5, 6, 7, 8, 9, 10, 11, 12, 13] [] [0, 1, 2, 3, 4, 5, 6, 7, 8, 9, 10, 11, 12, 13] rfl (Wr := []) rfl (by decide) (by decide) (by decide) (by decide) (fun _ => rfl) 0 rfl rfl rfl k_470 mX0_readSign ⟨rfl, rfl⟩ ⟨Nat.le_of_ble_eq_true rfl, Nat.le_of_ble_eq_true rfl⟩ rfl rfl (Nat.le_of_ble_eq_true rfl) dX0_readPaint_78 ⟨Nat.zero_le _, Nat.zero_le _⟩ (fun H8 locs8 hP hD hS8 => ?_)
        have hP8 : va_P D cls (wX0 q a y78.2 (b 99) ++ wX3 q b y74) H8 := hP
        have hD8 : va_D (va_A (wX0 q a v (b 99) ++ wX3 q b u) s.heap.size) (wX0 q a y78.2 (b 99) ++ wX3 q b y74) := hD
        clear hP hD hP7 hD7 hS7
        obtain ⟨hz0, hm⟩ := ckd hm
        have hnz := nz_nar hz0
        exact eWz (Wf := fun (uu : SV × SV) => wX0 q a uu.1 (b 99) ++ wX3 q b uu.2) (u := (y78.2, y74)) X hr hlocks hnz hP8 hD8 hS8 hm dX0_readPaint_81
      · replace hm := tp hm c45
        refine lv_iconst (v := (0 : Int32)) hx hb dX0_readPaint_48 (by decide) ?_
        exact eWz (Wf := fun (uu : SV × SV) => wX0 q a uu.1 (b 99) ++ wX3 q b uu.2) (u := (y42.2, u)) X hr hlocks rfl hP5 hD5 hS5 hm dX0_readPaint_49
    · replace hm := tn hm c26
      refine lv_aload_n hx hb dX0_readPaint_29 rfl (lv_at hl3 1 rfl) ?_
      refine lv_iconst (v := (5 : Int32)) hx hb dX0_readPaint_30 (by decide) ?_
      refine lv_aload_n hx hb dX0_readPaint_31 rfl (lv_at hl3 1 rfl) ?_
      refine va_get (D := D) (ci := 0) (v := .int (y12.2 0 6)) (C := RX0) (T := TX0) (N := 13) hx hb hW iX0 hown hK hP2 0 rfl rfl 6 (by decide) (hW _ k_183) (fun _ h => h) rfl dX0_readPaint_32 ?_
      obtain ⟨y35, hy35, hm⟩ := bn hm
      refine cVWi (As := [.int (5 : Int32), .int (y12.2 0 6)]) (rest := []) (Wn := fun (uu : SV) => wX0 q a uu (b 99) ++ wX3 q b u) X hP2 hD2 hS2 (fun _ h => Or.inr h) hl3.1 (c_X0_refuse l D q H2.size a y12.2 b u (5 : Int32) (y12.2 0 6) y35 hy35) [0, 1, 2, 3, 4, 5, 6, 7, 8, 9, 10, 11, 12, 13] [] [0, 1, 2, 3, 4, 5, 6, 7, 8, 9, 10, 11, 12, 13] rfl (Wr := []) rfl (by decide) (by decide) (by decide) (by decide) (fun _ => rfl) 0 rfl rfl rfl k_374 mX0_refuse ⟨rfl, rfl⟩ ⟨Nat.le_of_ble_eq_true rfl, Nat.le_of_ble_eq_true rfl⟩ rfl rfl (Nat.le_of_ble_eq_true rfl) dX0_readPaint_35 ⟨Nat.zero_le _, Nat.zero_le _⟩ (fun H9 locs9 hP hD hS9 => ?_)
      have hP9 : va_P D cls (wX0 q a y35.2 (b 99) ++ wX3 q b u) H9 := hP
      have hD9 : va_D (va_A (wX0 q a v (b 99) ++ wX3 q b u) s.heap.size) (wX0 q a y35.2 (b 99) ++ wX3 q b u) := hD
      clear hP hD hP2 hD2 hS2
      obtain ⟨hz0, hm⟩ := ckd hm
      have hnz := nz_nar hz0
      exact eWz (Wf := fun (uu : SV × SV) => wX0 q a uu.1 (b 99) ++ wX3 q b uu.2) (u := (y35.2, u)) X hr hlocks hnz hP9 hD9 hS9 hm dX0_readPaint_38
  · replace hm := tp hm c6
    refine lv_iconst (v := (0 : Int32)) hx hb dX0_readPaint_9 (by decide) ?_
    exact eWz (Wf := fun (uu : SV × SV) => wX0 q a uu.1 (b 99) ++ wX3 q b uu.2) (u := (y3.2, u)) X hr hlocks rfl hP1 hD1 hS1 hm dX0_readPaint_10
