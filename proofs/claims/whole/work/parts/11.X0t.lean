noncomputable def m_X0_nameOf (x1 : Int32) : Option (Nat) :=
  (if x1 = (0 : Int32) then some 0 else (if x1 = (1 : Int32) then some 1 else (if x1 = (2 : Int32) then some 2 else (if x1 = (3 : Int32) then some 3 else (if x1 = (4 : Int32) then some 4 else (if x1 = (5 : Int32) then some 5 else (if x1 = (6 : Int32) then some 6 else (if x1 = (7 : Int32) then some 7 else some 8))))))))
set_option maxHeartbeats 4000000 in
set_option maxRecDepth 100000 in
theorem c_X0_nameOf (l : Launch) (D : va_G) (q : Nat → ClassId) (aK : Nat → Nat) (x1 : Int32) (res : Nat) (hm : m_X0_nameOf x1 = some res) : Met l yX0_nameOf (mw yX0_nameOf cX0_nameOf 1 (some (.object "java/lang/String"))) ({ frames := 0, cells := 0, slots := 0, locals := 0 } : Room) (pcN D q aK [.int x1]) (va_Sr (fun k => k = res) (fun k => .ref (aK k))) 0 0 (fun _ => False) := by
  refine Met.ofW (cc := cX0_nameOf) (maxL := 1) (ret := (some (.object "java/lang/String"))) (by decide) rfl ?_
  intro p e s m args below meth c s₁ B hml hv
  obtain ⟨rfl, hK, hR'⟩ := hv
  have hx := B.exec
  have hb := B.bytes
  have hr := B.returns
  have hW := mw_ws (atoms_spec (ws := mw yX0_nameOf cX0_nameOf 1 (some (.object "java/lang/String"))) B.pre)
  have hown : s.vm.findClass RX0 = some m.cls := findClass_of_methodNamed B.named
  have hlocks := B.notSynchronized
  have X : Cx p s m [.int x1].toArray c cX0_nameOf 1 RX0 D q := ⟨hx, hb, hml, hown, hW, hK⟩
  have hl0 := lv_entry ([.int x1]) (n := 1) (Nat.le_of_ble_eq_true rfl)
  rw [lg_entry_eq]
  generalize (lg_sl ([.int x1]) ++ List.replicate (1 - (lg_sl ([.int x1])).length) Slot.unset).toArray = ls0 at hl0 ⊢
  have hl0 : lv_has ls0 1 [(0, .int x1)] := hl0
  unfold m_X0_nameOf at hm
  refine lv_iload_n hx hb dX0_nameOf_0 rfl (lv_at hl0 0 rfl) ?_
  by_cases c1_0 : x1 = (0 : Int32)
  · replace hm := tp hm c1_0
    refine lv_tableIn (off := 47) (tgt := 48) hx hb dX0_nameOf_1 (by rw [c1_0]; decide) (by rw [c1_0]; decide) (by rw [c1_0]; rfl) (by decide) ?_
    refine va_ldcS (index := 183) hx hb hown (hR' 0 (by decide)) dX0_nameOf_48 ?_
    exact eRs (k := 0) X hr hlocks hm dX0_nameOf_50
  · replace hm := tn hm c1_0
    by_cases c1_1 : x1 = (1 : Int32)
    · replace hm := tp hm c1_1
      refine lv_tableIn (off := 50) (tgt := 51) hx hb dX0_nameOf_1 (by rw [c1_1]; decide) (by rw [c1_1]; decide) (by rw [c1_1]; rfl) (by decide) ?_
      refine va_ldcS (index := 185) hx hb hown (hR' 1 (by decide)) dX0_nameOf_51 ?_
      exact eRs (k := 1) X hr hlocks hm dX0_nameOf_53
    · replace hm := tn hm c1_1
      by_cases c1_2 : x1 = (2 : Int32)
      · replace hm := tp hm c1_2
        refine lv_tableIn (off := 53) (tgt := 54) hx hb dX0_nameOf_1 (by rw [c1_2]; decide) (by rw [c1_2]; decide) (by rw [c1_2]; rfl) (by decide) ?_
        refine va_ldcS (index := 187) hx hb hown (hR' 2 (by decide)) dX0_nameOf_54 ?_
        exact eRs (k := 2) X hr hlocks hm dX0_nameOf_56
      · replace hm := tn hm c1_2
        by_cases c1_3 : x1 = (3 : Int32)
        · replace hm := tp hm c1_3
          refine lv_tableIn (off := 56) (tgt := 57) hx hb dX0_nameOf_1 (by rw [c1_3]; decide) (by rw [c1_3]; decide) (by rw [c1_3]; rfl) (by decide) ?_
          refine va_ldcS (index := 189) hx hb hown (hR' 3 (by decide)) dX0_nameOf_57 ?_
          exact eRs (k := 3) X hr hlocks hm dX0_nameOf_59
        · replace hm := tn hm c1_3
          by_cases c1_4 : x1 = (4 : Int32)
          · replace hm := tp hm c1_4
            refine lv_tableIn (off := 59) (tgt := 60) hx hb dX0_nameOf_1 (by rw [c1_4]; decide) (by rw [c1_4]; decide) (by rw [c1_4]; rfl) (by decide) ?_
            refine va_ldcS (index := 191) hx hb hown (hR' 4 (by decide)) dX0_nameOf_60 ?_
            exact eRs (k := 4) X hr hlocks hm dX0_nameOf_62
          · replace hm := tn hm c1_4
            by_cases c1_5 : x1 = (5 : Int32)
            · replace hm := tp hm c1_5
              refine lv_tableIn (off := 62) (tgt := 63) hx hb dX0_nameOf_1 (by rw [c1_5]; decide) (by rw [c1_5]; decide) (by rw [c1_5]; rfl) (by decide) ?_
              refine va_ldcS (index := 192) hx hb hown (hR' 5 (by decide)) dX0_nameOf_63 ?_
              exact eRs (k := 5) X hr hlocks hm dX0_nameOf_65
            · replace hm := tn hm c1_5
              by_cases c1_6 : x1 = (6 : Int32)
              · replace hm := tp hm c1_6
                refine lv_tableIn (off := 65) (tgt := 66) hx hb dX0_nameOf_1 (by rw [c1_6]; decide) (by rw [c1_6]; decide) (by rw [c1_6]; rfl) (by decide) ?_
                refine va_ldcS (index := 194) hx hb hown (hR' 6 (by decide)) dX0_nameOf_66 ?_
                exact eRs (k := 6) X hr hlocks hm dX0_nameOf_68
              · replace hm := tn hm c1_6
                by_cases c1_7 : x1 = (7 : Int32)
                · replace hm := tp hm c1_7
                  refine lv_tableIn (off := 68) (tgt := 69) hx hb dX0_nameOf_1 (by rw [c1_7]; decide) (by rw [c1_7]; decide) (by rw [c1_7]; rfl) (by decide) ?_
                  refine va_ldcS (index := 196) hx hb hown (hR' 7 (by decide)) dX0_nameOf_69 ?_
                  exact eRs (k := 7) X hr hlocks hm dX0_nameOf_71
                · replace hm := tn hm c1_7
                  have hk1 : x1.toInt < 0 ∨ 7 < x1.toInt := by
                    have g0 := lv_neT c1_0 (show ((0 : Int32)).toInt = 0 from rfl)
                    have g1 := lv_neT c1_1 (show ((1 : Int32)).toInt = 1 from rfl)
                    have g2 := lv_neT c1_2 (show ((2 : Int32)).toInt = 2 from rfl)
                    have g3 := lv_neT c1_3 (show ((3 : Int32)).toInt = 3 from rfl)
                    have g4 := lv_neT c1_4 (show ((4 : Int32)).toInt = 4 from rfl)
                    have g5 := lv_neT c1_5 (show ((5 : Int32)).toInt = 5 from rfl)
                    have g6 := lv_neT c1_6 (show ((6 : Int32)).toInt = 6 from rfl)
                    have g7 := lv_neT c1_7 (show ((7 : Int32)).toInt = 7 from rfl)
                    omega
                  refine lv_tableOut (tgt := 72) hx hb dX0_nameOf_1 hk1 (by decide) ?_
                  refine va_ldcS (index := 198) hx hb hown (hR' 8 (by decide)) dX0_nameOf_72 ?_
                  exact eRs (k := 8) X hr hlocks hm dX0_nameOf_74
theorem nameOf_lt {x : Int32} {k : Nat} (h : m_X0_nameOf x = some k) : k < 9 := by
  unfold m_X0_nameOf at h
  repeat (split at h; · cases h; decide)
  cases h; decide
noncomputable def m_X0_isName_K22 (z22 : Int32) : Option (Int32) :=
  some (1 : Int32)
noncomputable def m_X0_isName_L22 (v : SV) (k1 : Nat) (z22 : Int32) : Option ((Int32) ⊕ ((Int32) ⊕ (Int32))) :=
  (if ((v 0 7) - (v 0 6)) ≤ z22 then some (.inr (.inl z22)) else ck (inB z22 (sLen.getD k1 0)) (ck (inB ((v 0 6) + z22) 160) ((if (sCh k1 z22) = (v 50 ((((v 0 6) + z22)).toNatClampNeg)) then some (.inl (z22 + (1 : Int32))) else some (.inr (.inr (0 : Int32)))))))
noncomputable def m_X0_isName (v : SV) (u : SV) (k1 : Nat) : Option (Int32) :=
  (if (nI (sLen.getD k1 0)) = ((v 0 7) - (v 0 6)) then (lpC (m_X0_isName_L22 v k1) (0 : Int32)).bind (Sum.elim (m_X0_isName_K22) (fun y => some y)) else some (0 : Int32))
set_option maxHeartbeats 4000000 in
set_option maxRecDepth 100000 in
theorem c_X0_isName (l : Launch) (D : va_G) (q : Nat → ClassId) (aK aV : Nat → Nat) (a : Nat → Nat) (v : SV) (b : Nat → Nat) (u : SV) (k1 : Nat) (hk1 : k1 < 9) (res : Int32) (hm : m_X0_isName v u k1 = some res) : Met l yX0_isName (mw yX0_isName cX0_isName 4 (some .boolean)) ({ frames := 4, cells := 0, slots := 0, locals := 86 } : Room) (pcRT D q aK aV (wX0 q a v (b 99) ++ wX3 q b u) [.ref (a 99), .ref (aK k1)]) (vp_Si (fun x => x = res)) 0 0 (fun _ => False) := by
  refine Met.ofW (cc := cX0_isName) (maxL := 4) (ret := (some .boolean)) (by decide) rfl ?_
  intro p e s m args below meth c s₁ B hml hv
  obtain ⟨rfl, hP0, hK, hE, hR'⟩ := hv
  have hx := B.exec
  have hb := B.bytes
  have hr := B.returns
  have hW := mw_ws (atoms_spec (ws := mw yX0_isName cX0_isName 4 (some .boolean)) B.pre)
  have hown : s.vm.findClass RX0 = some m.cls := findClass_of_methodNamed B.named
  have hlocks := B.notSynchronized
  have X : Cx p s m [.ref (a 99), .ref (aK k1)].toArray c cX0_isName 4 RX0 D q := ⟨hx, hb, hml, hown, hW, hK⟩
  have hS0 : va_S (fun _ => False) s.heap s.heap [] := va_S.rf
  have hl0 := lv_entry ([.ref (a 99), .ref (aK k1)]) (n := 4) (Nat.le_of_ble_eq_true rfl)
  rw [lg_entry_eq]
  generalize (lg_sl ([.ref (a 99), .ref (aK k1)]) ++ List.replicate (4 - (lg_sl ([.ref (a 99), .ref (aK k1)])).length) Slot.unset).toArray = ls0 at hl0 ⊢
  have hl0 : lv_has ls0 4 [(0, .ref (a 99)), (1, .ref (aK k1))] := hl0
  unfold m_X0_isName at hm
  refine lv_aload_n hx hb dX0_isName_0 rfl (lv_at hl0 0 rfl) ?_
  refine va_get (D := D) (ci := 0) (v := .int (v 0 7)) (C := RX0) (T := TX0) (N := 13) hx hb hW iX0 hown hK hP0 0 rfl rfl 7 (by decide) (hW _ k_184) (fun _ h => h) rfl dX0_isName_1 ?_
  refine lv_aload_n hx hb dX0_isName_4 rfl (lv_at hl0 0 rfl) ?_
  refine va_get (D := D) (ci := 0) (v := .int (v 0 6)) (C := RX0) (T := TX0) (N := 13) hx hb hW iX0 hown hK hP0 0 rfl rfl 6 (by decide) (hW _ k_183) (fun _ h => h) rfl dX0_isName_5 ?_
  refine lv_isub hx hb dX0_isName_8 ?_
  refine lv_istore_n (lv' := [(2, .int ((v 0 7) - (v 0 6))), (0, .ref (a 99)), (1, .ref (aK k1))]) hx hb dX0_isName_9 rfl hl0 (by decide) rfl (fun ls1 hl1 => ?_)
  clear hl0
  refine lv_aload_n hx hb dX0_isName_10 rfl (lv_at hl1 2 rfl) ?_
  refine cVTi (As := []) (rest := []) hk1 X hE hS0 hl1.1 (c_J0_length_8abf5 l D q aK aV k1 hk1) rfl k_402 mJ0_length_8abf5 ⟨rfl, rfl⟩ ⟨Nat.le_of_ble_eq_true rfl, Nat.le_of_ble_eq_true rfl⟩ rfl rfl (Nat.le_of_ble_eq_true rfl) dX0_isName_11 ⟨Nat.zero_le _, Nat.zero_le _⟩ ?_
  refine lv_iload_n hx hb dX0_isName_14 rfl (lv_at hl1 0 rfl) ?_
  refine lv_icmp_eq (tgt := 20) hx hb dX0_isName_15 (by decide) (fun c15 => ?_) (fun c15 => ?_)
  · replace hm := tp hm c15
    refine lv_iconst (v := (0 : Int32)) hx hb dX0_isName_20 (by decide) ?_
    refine lv_istore_n (lv' := [(3, .int (0 : Int32)), (2, .int ((v 0 7) - (v 0 6))), (0, .ref (a 99)), (1, .ref (aK k1))]) hx hb dX0_isName_21 rfl hl1 (by decide) rfl (fun ls2 hl2 => ?_)
    clear hl1
    obtain ⟨r22, hr22, hm⟩ := bn hm
    obtain ⟨n22, hn22⟩ := lpC_ex hr22
    have hE22 : ∀ z22 : Int32, m_X0_isName_K22 z22 = some res → ∀ ls : Array Slot, lv_has ls 4 [] → W p l e ((headSpec (mw yX0_isName cX0_isName 4 (some .boolean)) ({ frames := 4, cells := 0, slots := 0, locals := 86 } : Room)).room) s m [.ref (a 99), .ref (aK k1)].toArray below meth c s.heap [] 0 0 (MQ below (vp_Si (fun x => x = res)) [.ref (a 99), .ref (aK k1)].toArray s 0 0 (fun _ => False)) (F0 m 54 ls []) := by
      intro z22 hm ls4 hl4
      unfold m_X0_isName_K22 at hm
      refine lv_iconst (v := (1 : Int32)) hx hb dX0_isName_54 (by decide) ?_
      exact eRz  X hr hlocks rfl hm dX0_isName_55
    have hL22 : ∀ (n : Nat) (z22 : Int32) (ρ22 : (Int32) ⊕ (Int32)), lpO (m_X0_isName_L22 v k1) n z22 = some ρ22 → (Sum.elim (m_X0_isName_K22) (fun y => some y)) ρ22 = some res → ∀ ls : Array Slot, lv_has ls 4 [(2, .int ((v 0 7) - (v 0 6))), (0, .ref (a 99)), (1, .ref (aK k1)), (3, .int z22)] → W p l e ((headSpec (mw yX0_isName cX0_isName 4 (some .boolean)) ({ frames := 4, cells := 0, slots := 0, locals := 86 } : Room)).room) s m [.ref (a 99), .ref (aK k1)].toArray below meth c s.heap [] 0 0 (MQ below (vp_Si (fun x => x = res)) [.ref (a 99), .ref (aK k1)].toArray s 0 0 (fun _ => False)) (F0 m 22 ls []) := by
      intro n
      induction n with
      | zero => intro _ _ h; cases h
      | succ n ih22 =>
        intro z22 ρ22 hz22 hK22 ls3 hl3
        obtain ⟨t22, hm, hz22⟩ := bn hz22
        unfold m_X0_isName_L22 at hm
        refine lv_iload_n hx hb dX0_isName_22 rfl (lv_at hl3 3 rfl) ?_
        refine lv_iload_n hx hb dX0_isName_23 rfl (lv_at hl3 0 rfl) ?_
        refine lv_icmp_ge (tgt := 54) hx hb dX0_isName_24 (by decide) (fun c24 => ?_) (fun c24 => ?_)
        · replace hm := tp hm c24
          cases hm
          cases hz22
          exact hE22 z22 hK22 _ (lv_sub hl3 [] rfl)
        · replace hm := tn hm c24
          refine lv_aload_n hx hb dX0_isName_27 rfl (lv_at hl3 2 rfl) ?_
          refine lv_iload_n hx hb dX0_isName_28 rfl (lv_at hl3 3 rfl) ?_
          obtain ⟨h5, hm⟩ := ckd hm
          refine cVTi (As := [.int z22]) (rest := []) hk1 X hE hS0 hl3.1 (c_J0_charAt_5068e l D q aK aV k1 hk1 z22 h5) rfl k_412 mJ0_charAt_5068e ⟨rfl, rfl⟩ ⟨Nat.le_of_ble_eq_true rfl, Nat.le_of_ble_eq_true rfl⟩ rfl rfl (Nat.le_of_ble_eq_true rfl) dX0_isName_29 ⟨Nat.zero_le _, Nat.zero_le _⟩ ?_
          refine lv_aload_n hx hb dX0_isName_32 rfl (lv_at hl3 1 rfl) ?_
          refine va_get (D := D) (ci := 0) (v := .ref (a 0)) (C := RX0) (T := TX0) (N := 13) hx hb hW iX0 hown hK hP0 0 rfl rfl 0 (by decide) (hW _ k_174) (fun _ h => h) rfl dX0_isName_33 ?_
          refine lv_aload_n hx hb dX0_isName_36 rfl (lv_at hl3 1 rfl) ?_
          refine va_get (D := D) (ci := 0) (v := .int (v 0 6)) (C := RX0) (T := TX0) (N := 13) hx hb hW iX0 hown hK hP0 0 rfl rfl 6 (by decide) (hW _ k_183) (fun _ h => h) rfl dX0_isName_37 ?_
          refine lv_iload_n hx hb dX0_isName_40 rfl (lv_at hl3 3 rfl) ?_
          refine lv_iadd hx hb dX0_isName_41 ?_
          obtain ⟨h6, hm⟩ := ckd hm
          refine va_bald (f := (v 50)) hx hb hK hP0 1 1 rfl rfl (inB_vp h6) dX0_isName_42 ?_
          refine lv_icmp_eq (tgt := 48) hx hb dX0_isName_43 (by decide) (fun c43 => ?_) (fun c43 => ?_)
          · replace hm := tp hm c43
            refine lv_iinc (v := (z22 + (1 : Int32))) (lv' := [(3, .int (z22 + (1 : Int32))), (2, .int ((v 0 7) - (v 0 6))), (0, .ref (a 99)), (1, .ref (aK k1))]) hx hb dX0_isName_48 hl3 (k := 3) rfl rfl (by decide) rfl (fun ls7 hl7 => ?_)
            clear hl3
            refine lv_goto (tgt := 22) hx hb dX0_isName_51 (by decide) ?_
            cases hm
            exact ih22 (z22 + (1 : Int32)) ρ22 hz22 hK22 _ (lv_sub hl7 [1, 2, 3, 0] rfl)
          · replace hm := tn hm c43
            refine lv_iconst (v := (0 : Int32)) hx hb dX0_isName_46 (by decide) ?_
            cases hm
            cases hz22
            have hm : (some (0 : Int32) : Option (Int32)) = some res := hK22
            exact eRz  X hr hlocks rfl hm dX0_isName_47
    exact hL22 n22 (0 : Int32) r22 hn22 hm _ (lv_sub hl2 [1, 2, 3, 0] rfl)
  · replace hm := tn hm c15
    refine lv_iconst (v := (0 : Int32)) hx hb dX0_isName_18 (by decide) ?_
    exact eRz  X hr hlocks rfl hm dX0_isName_19
noncomputable def m_X0_lineBegun_K2 (z2 : Int32) : Option (Int32) :=
  some (-4 : Int32)
noncomputable def m_X0_lineBegun_L2 (v : SV) (u : SV) (z2 : Int32) : Option ((Int32) ⊕ ((Int32) ⊕ (Int32))) :=
  (if (9 : Int32) ≤ z2 then some (.inr (.inl z2)) else (m_X0_nameOf z2).bind (fun y10 => (m_X0_isName v u y10).bind (fun y13 => (if y13 = 0 then some (.inl (z2 + (1 : Int32))) else some (.inr (.inr z2))))))
noncomputable def m_X0_lineBegun (v : SV) (u : SV) : Option (Int32) :=
  (lpC (m_X0_lineBegun_L2 v u) (0 : Int32)).bind (Sum.elim (m_X0_lineBegun_K2) (fun y => some y))
set_option maxHeartbeats 4000000 in
set_option maxRecDepth 100000 in
theorem c_X0_lineBegun (l : Launch) (D : va_G) (q : Nat → ClassId) (aK aV : Nat → Nat) (a : Nat → Nat) (v : SV) (b : Nat → Nat) (u : SV) (res : Int32) (hm : m_X0_lineBegun v u = some res) : Met l yX0_lineBegun (mw yX0_lineBegun cX0_lineBegun 2 (some .int)) ({ frames := 5, cells := 0, slots := 0, locals := 109 } : Room) (pcRT D q aK aV (wX0 q a v (b 99) ++ wX3 q b u) [.ref (a 99)]) (vp_Si (fun x => x = res)) 0 0 (fun _ => False) := by
  refine Met.ofW (cc := cX0_lineBegun) (maxL := 2) (ret := (some .int)) (by decide) rfl ?_
  intro p e s m args below meth c s₁ B hml hv
  obtain ⟨rfl, hP0, hK, hE, hR'⟩ := hv
  have hx := B.exec
  have hb := B.bytes
  have hr := B.returns
  have hW := mw_ws (atoms_spec (ws := mw yX0_lineBegun cX0_lineBegun 2 (some .int)) B.pre)
  have hown : s.vm.findClass RX0 = some m.cls := findClass_of_methodNamed B.named
  have hlocks := B.notSynchronized
  have X : Cx p s m [.ref (a 99)].toArray c cX0_lineBegun 2 RX0 D q := ⟨hx, hb, hml, hown, hW, hK⟩
  have hS0 : va_S (fun _ => False) s.heap s.heap [] := va_S.rf
  have hl0 := lv_entry ([.ref (a 99)]) (n := 2) (Nat.le_of_ble_eq_true rfl)
  rw [lg_entry_eq]
  generalize (lg_sl ([.ref (a 99)]) ++ List.replicate (2 - (lg_sl ([.ref (a 99)])).length) Slot.unset).toArray = ls0 at hl0 ⊢
  have hl0 : lv_has ls0 2 [(0, .ref (a 99))] := hl0
  unfold m_X0_lineBegun at hm
  refine lv_iconst (v := (0 : Int32)) hx hb dX0_lineBegun_0 (by decide) ?_
  refine lv_istore_n (lv' := [(1, .int (0 : Int32)), (0, .ref (a 99))]) hx hb dX0_lineBegun_1 rfl hl0 (by decide) rfl (fun ls1 hl1 => ?_)
  clear hl0
  obtain ⟨r2, hr2, hm⟩ := bn hm
  obtain ⟨n2, hn2⟩ := lpC_ex hr2
  have hE2 : ∀ z2 : Int32, m_X0_lineBegun_K2 z2 = some res → ∀ ls : Array Slot, lv_has ls 2 [] → W p l e ((headSpec (mw yX0_lineBegun cX0_lineBegun 2 (some .int)) ({ frames := 5, cells := 0, slots := 0, locals := 109 } : Room)).room) s m [.ref (a 99)].toArray below meth c s.heap [] 0 0 (MQ below (vp_Si (fun x => x = res)) [.ref (a 99)].toArray s 0 0 (fun _ => False)) (F0 m 27 ls []) := by
    intro z2 hm ls3 hl3
    unfold m_X0_lineBegun_K2 at hm
    refine lv_bipush (v := (-4 : Int32)) hx hb dX0_lineBegun_27 (by decide) ?_
    exact eRi  X hr hlocks hm dX0_lineBegun_29
  have hL2 : ∀ (n : Nat) (z2 : Int32) (ρ2 : (Int32) ⊕ (Int32)), lpO (m_X0_lineBegun_L2 v u) n z2 = some ρ2 → (Sum.elim (m_X0_lineBegun_K2) (fun y => some y)) ρ2 = some res → ∀ ls : Array Slot, lv_has ls 2 [(0, .ref (a 99)), (1, .int z2)] → W p l e ((headSpec (mw yX0_lineBegun cX0_lineBegun 2 (some .int)) ({ frames := 5, cells := 0, slots := 0, locals := 109 } : Room)).room) s m [.ref (a 99)].toArray below meth c s.heap [] 0 0 (MQ below (vp_Si (fun x => x = res)) [.ref (a 99)].toArray s 0 0 (fun _ => False)) (F0 m 2 ls []) := by
    intro n
    induction n with
    | zero => intro _ _ h; cases h
    | succ n ih2 =>
      intro z2 ρ2 hz2 hK2 ls2 hl2
      obtain ⟨t2, hm, hz2⟩ := bn hz2
      unfold m_X0_lineBegun_L2 at hm
      refine lv_iload_n hx hb dX0_lineBegun_2 rfl (lv_at hl2 1 rfl) ?_
      refine lv_bipush (v := (9 : Int32)) hx hb dX0_lineBegun_3 (by decide) ?_
      refine lv_icmp_ge (tgt := 27) hx hb dX0_lineBegun_5 (by decide) (fun c5 => ?_) (fun c5 => ?_)
      · replace hm := tp hm c5
        cases hm
        cases hz2
        exact hE2 z2 hK2 _ (lv_sub hl2 [] rfl)
      · replace hm := tn hm c5
        refine lv_aload_n hx hb dX0_lineBegun_8 rfl (lv_at hl2 0 rfl) ?_
        refine lv_iload_n hx hb dX0_lineBegun_9 rfl (lv_at hl2 1 rfl) ?_
        obtain ⟨y10, hy10, hm⟩ := bn hm
        refine cSNs (As := [.int z2]) (rest := [.ref (a 99)]) X hR' hl2.1 (c_X0_nameOf l D q aK z2 y10 hy10) k_386 mX0_nameOf ⟨rfl, rfl⟩ ⟨Nat.le_of_ble_eq_true rfl, Nat.le_of_ble_eq_true rfl⟩ rfl rfl (Nat.le_of_ble_eq_true rfl) dX0_lineBegun_10 ⟨Nat.zero_le _, Nat.zero_le _⟩ ?_
        obtain ⟨y13, hy13, hm⟩ := bn hm
        refine cVRTi (As := [.ref (aK y10)]) (rest := []) X hE hR' hP0 hS0 hl2.1 (c_X0_isName l D q aK aV a v b u y10 (nameOf_lt hy10) y13 hy13) [0, 1, 2, 3, 4, 5, 6, 7, 8, 9, 10, 11, 12, 13] rfl 0 rfl rfl rfl k_398 mX0_isName ⟨rfl, rfl⟩ ⟨Nat.le_of_ble_eq_true rfl, Nat.le_of_ble_eq_true rfl⟩ rfl rfl (Nat.le_of_ble_eq_true rfl) dX0_lineBegun_13 ⟨Nat.zero_le _, Nat.zero_le _⟩ ?_
        refine lv_if_eq (tgt := 21) hx hb dX0_lineBegun_16 (by decide) (fun c16 => ?_) (fun c16 => ?_)
        · replace hm := tp hm c16
          refine lv_iinc (v := (z2 + (1 : Int32))) (lv' := [(1, .int (z2 + (1 : Int32))), (0, .ref (a 99))]) hx hb dX0_lineBegun_21 hl2 (k := 1) rfl rfl (by decide) rfl (fun ls4 hl4 => ?_)
          clear hl2
          refine lv_goto (tgt := 2) hx hb dX0_lineBegun_24 (by decide) ?_
          cases hm
          exact ih2 (z2 + (1 : Int32)) ρ2 hz2 hK2 _ (lv_sub hl4 [1, 0] rfl)
        · replace hm := tn hm c16
          refine lv_iload_n hx hb dX0_lineBegun_19 rfl (lv_at hl2 1 rfl) ?_
          cases hm
          cases hz2
          have hm : (some z2 : Option (Int32)) = some res := hK2
          exact eRi  X hr hlocks hm dX0_lineBegun_20
  exact hL2 n2 (0 : Int32) r2 hn2 hm _ (lv_sub hl1 [1, 0] rfl)
noncomputable def m_X0_readLine_J17 (v : SV) (u : SV) (z17 : Int32) : Option (Int32 × SV × SV) :=
  (if z17 = (0 : Int32) then (m_X0_readSitter v u z17).bind (fun y70 => ck (nzB y70.1) (some (y70.1, y70.2.1, y70.2.2))) else (if z17 = (1 : Int32) then (m_X0_readSitter v u z17).bind (fun y70 => ck (nzB y70.1) (some (y70.1, y70.2.1, y70.2.2))) else (if z17 = (2 : Int32) then (m_X0_readSitter v u z17).bind (fun y70 => ck (nzB y70.1) (some (y70.1, y70.2.1, y70.2.2))) else (if z17 = (3 : Int32) then (m_X0_readSitter v u z17).bind (fun y70 => ck (nzB y70.1) (some (y70.1, y70.2.1, y70.2.2))) else (if z17 = (4 : Int32) then (m_X0_readParts v u).bind (fun y75 => ck (nzB y75.1) (some (y75.1, y75.2.1, y75.2.2))) else (if z17 = (5 : Int32) then (m_X0_readWorth v u).bind (fun y80 => ck (nzB y80.1) (some (y80.1, y80.2.1, y80.2.2))) else (if z17 = (6 : Int32) then (m_X0_readBond v u).bind (fun y85 => ck (nzB y85.1) (some (y85.1, y85.2.1, y85.2.2))) else (if z17 = (7 : Int32) then (m_X0_readForger v u).bind (fun y90 => ck (nzB y90.1) (some (y90.1, y90.2.1, y90.2.2))) else (if z17 = (8 : Int32) then (m_X0_readPaint v u).bind (fun y95 => ck (nzB y95.1) (some (y95.1, y95.2.1, y95.2.2))) else (m_X0_refuse v u (2 : Int32) (v 0 6)).bind (fun y105 => ck (nzB y105.1) (some (y105.1, y105.2, u))))))))))))
noncomputable def m_X0_readLine (v : SV) (u : SV) : Option (Int32 × SV × SV) :=
  (if (v 0 5) = (1 : Int32) then (m_X0_lineBegun v u).bind (fun y9 => m_X0_readLine_J17 v u y9) else m_X0_readLine_J17 v u (-4 : Int32))
set_option maxHeartbeats 4000000 in
set_option maxRecDepth 100000 in
theorem c_X0_readLine (l : Launch) (D : va_G) (q : Nat → ClassId) (sz : Nat) (aK aV : Nat → Nat) (a : Nat → Nat) (v : SV) (b : Nat → Nat) (u : SV) (res : Int32 × SV × SV) (hm : m_X0_readLine v u = some res) : Met l yX0_readLine (mw yX0_readLine cX0_readLine 2 (some .boolean)) ({ frames := 6, cells := 0, slots := 0, locals := 130 } : Room) (pcWT D q aK aV (wX0 q a v (b 99) ++ wX3 q b u) sz [.ref (a 99)]) (va_Qi (fun r w => r = res.1 ∧ w = res.2) (bW D q (wX0 q a v (b 99) ++ wX3 q b u) sz (fun (uu : SV × SV) => wX0 q a uu.1 (b 99) ++ wX3 q b uu.2)) (va_A (wX0 q a v (b 99) ++ wX3 q b u) sz)) 0 0 (va_A (wX0 q a v (b 99) ++ wX3 q b u) sz) := by
  refine Met.ofW (cc := cX0_readLine) (maxL := 2) (ret := (some .boolean)) (by decide) rfl ?_
  intro p e s m args below meth c s₁ B hml hv
  obtain ⟨rfl, hsz, hP0, hK, hD0, hE, hR'⟩ := hv
  have hx := B.exec
  have hb := B.bytes
  have hr := B.returns
  have hW := mw_ws (atoms_spec (ws := mw yX0_readLine cX0_readLine 2 (some .boolean)) B.pre)
  have hown : s.vm.findClass RX0 = some m.cls := findClass_of_methodNamed B.named
  have hlocks := B.notSynchronized
  have X : Cx p s m [.ref (a 99)].toArray c cX0_readLine 2 RX0 D q := ⟨hx, hb, hml, hown, hW, hK⟩
  subst hsz
  replace hD0 := hD0.self (sz := s.heap.size)
  have hS0 : va_S (va_A (wX0 q a v (b 99) ++ wX3 q b u) s.heap.size) s.heap s.heap [] := va_S.rf
  have hl0 := lv_entry ([.ref (a 99)]) (n := 2) (Nat.le_of_ble_eq_true rfl)
  rw [lg_entry_eq]
  generalize (lg_sl ([.ref (a 99)]) ++ List.replicate (2 - (lg_sl ([.ref (a 99)])).length) Slot.unset).toArray = ls0 at hl0 ⊢
  have hl0 : lv_has ls0 2 [(0, .ref (a 99))] := hl0
  unfold m_X0_readLine at hm
  refine lv_aload_n hx hb dX0_readLine_0 rfl (lv_at hl0 0 rfl) ?_
  refine va_get (D := D) (ci := 0) (v := .int (v 0 5)) (C := RX0) (T := TX0) (N := 13) hx hb hW iX0 hown hK hP0 0 rfl rfl 5 (by decide) (hW _ k_182) (fun _ h => h) rfl dX0_readLine_1 ?_
  refine lv_iconst (v := (1 : Int32)) hx hb dX0_readLine_4 (by decide) ?_
  have hJ17 : ∀ z17 : Int32, m_X0_readLine_J17 v u z17 = some res → ∀ (H : Heap) (locs : List Loc), va_P D cls (wX0 q a v (b 99) ++ wX3 q b u) H → va_D (va_A (wX0 q a v (b 99) ++ wX3 q b u) s.heap.size) (wX0 q a v (b 99) ++ wX3 q b u) → va_S (va_A (wX0 q a v (b 99) ++ wX3 q b u) s.heap.size) s.heap H locs → ∀ ls : Array Slot, lv_has ls 2 [(0, .ref (a 99))] → W p l e ((headSpec (mw yX0_readLine cX0_readLine 2 (some .boolean)) ({ frames := 6, cells := 0, slots := 0, locals := 130 } : Room)).room) s m [.ref (a 99)].toArray below meth c H locs 0 0 (MQ below (va_Qi (fun r w => r = res.1 ∧ w = res.2) (bW D q (wX0 q a v (b 99) ++ wX3 q b u) s.heap.size (fun (uu : SV × SV) => wX0 q a uu.1 (b 99) ++ wX3 q b uu.2)) (va_A (wX0 q a v (b 99) ++ wX3 q b u) s.heap.size)) [.ref (a 99)].toArray s 0 0 (va_A (wX0 q a v (b 99) ++ wX3 q b u) s.heap.size)) (F0 m 17 ls [.int z17]) := by
    intro z17 hm H2 locs2 hP2 hD2 hS2 ls1 hl1
    unfold m_X0_readLine_J17 at hm
    refine lv_istore_n (lv' := [(1, .int z17), (0, .ref (a 99))]) hx hb dX0_readLine_17 rfl hl1 (by decide) rfl (fun ls3 hl3 => ?_)
    clear hl1
    refine lv_iload_n hx hb dX0_readLine_18 rfl (lv_at hl3 0 rfl) ?_
    by_cases c19_0 : z17 = (0 : Int32)
    · replace hm := tp hm c19_0
      refine lv_tableIn (off := 49) (tgt := 68) hx hb dX0_readLine_19 (by rw [c19_0]; decide) (by rw [c19_0]; decide) (by rw [c19_0]; rfl) (by decide) ?_
      refine lv_aload_n hx hb dX0_readLine_68 rfl (lv_at hl3 1 rfl) ?_
      refine lv_iload_n hx hb dX0_readLine_69 rfl (lv_at hl3 0 rfl) ?_
      obtain ⟨y70, hy70, hm⟩ := bn hm
      refine cVWi (As := [.int z17]) (rest := []) (Wn := fun (uu : SV × SV) => wX0 q a uu.1 (b 99) ++ wX3 q b uu.2) X hP2 hD2 hS2 (fun _ h => Or.inr h) hl3.1 (c_X0_readSitter l D q H2.size a v b u z17 y70 hy70) [0, 1, 2, 3, 4, 5, 6, 7, 8, 9, 10, 11, 12, 13] [] [0, 1, 2, 3, 4, 5, 6, 7, 8, 9, 10, 11, 12, 13] rfl (Wr := []) rfl (by decide) (by decide) (by decide) (by decide) (fun _ => rfl) 0 rfl rfl rfl k_450 mX0_readSitter ⟨rfl, rfl⟩ ⟨Nat.le_of_ble_eq_true rfl, Nat.le_of_ble_eq_true rfl⟩ rfl rfl (Nat.le_of_ble_eq_true rfl) dX0_readLine_70 ⟨Nat.zero_le _, Nat.zero_le _⟩ (fun H4 locs4 hP hD hS4 => ?_)
      have hP4 : va_P D cls (wX0 q a y70.2.1 (b 99) ++ wX3 q b y70.2.2) H4 := hP
      have hD4 : va_D (va_A (wX0 q a v (b 99) ++ wX3 q b u) s.heap.size) (wX0 q a y70.2.1 (b 99) ++ wX3 q b y70.2.2) := hD
      clear hP hD hP2 hD2 hS2
      obtain ⟨hz0, hm⟩ := ckd hm
      have hnz := nz_nar hz0
      exact eWz (Wf := fun (uu : SV × SV) => wX0 q a uu.1 (b 99) ++ wX3 q b uu.2) (u := (y70.2.1, y70.2.2)) X hr hlocks hnz hP4 hD4 hS4 hm dX0_readLine_73
    · replace hm := tn hm c19_0
      by_cases c19_1 : z17 = (1 : Int32)
      · replace hm := tp hm c19_1
        refine lv_tableIn (off := 49) (tgt := 68) hx hb dX0_readLine_19 (by rw [c19_1]; decide) (by rw [c19_1]; decide) (by rw [c19_1]; rfl) (by decide) ?_
        refine lv_aload_n hx hb dX0_readLine_68 rfl (lv_at hl3 1 rfl) ?_
        refine lv_iload_n hx hb dX0_readLine_69 rfl (lv_at hl3 0 rfl) ?_
        obtain ⟨y70, hy70, hm⟩ := bn hm
        refine cVWi (As := [.int z17]) (rest := []) (Wn := fun (uu : SV × SV) => wX0 q a uu.1 (b 99) ++ wX3 q b uu.2) X hP2 hD2 hS2 (fun _ h => Or.inr h) hl3.1 (c_X0_readSitter l D q H2.size a v b u z17 y70 hy70) [0, 1, 2, 3, 4, 5, 6, 7, 8, 9, 10, 11, 12, 13] [] [0, 1, 2, 3, 4, 5, 6, 7, 8, 9, 10, 11, 12, 13] rfl (Wr := []) rfl (by decide) (by decide) (by decide) (by decide) (fun _ => rfl) 0 rfl rfl rfl k_450 mX0_readSitter ⟨rfl, rfl⟩ ⟨Nat.le_of_ble_eq_true rfl, Nat.le_of_ble_eq_true rfl⟩ rfl rfl (Nat.le_of_ble_eq_true rfl) dX0_readLine_70 ⟨Nat.zero_le _, Nat.zero_le _⟩ (fun H5 locs5 hP hD hS5 => ?_)
        have hP5 : va_P D cls (wX0 q a y70.2.1 (b 99) ++ wX3 q b y70.2.2) H5 := hP
        have hD5 : va_D (va_A (wX0 q a v (b 99) ++ wX3 q b u) s.heap.size) (wX0 q a y70.2.1 (b 99) ++ wX3 q b y70.2.2) := hD
        clear hP hD hP2 hD2 hS2
        obtain ⟨hz0, hm⟩ := ckd hm
        have hnz := nz_nar hz0
        exact eWz (Wf := fun (uu : SV × SV) => wX0 q a uu.1 (b 99) ++ wX3 q b uu.2) (u := (y70.2.1, y70.2.2)) X hr hlocks hnz hP5 hD5 hS5 hm dX0_readLine_73
      · replace hm := tn hm c19_1
        by_cases c19_2 : z17 = (2 : Int32)
        · replace hm := tp hm c19_2
          refine lv_tableIn (off := 49) (tgt := 68) hx hb dX0_readLine_19 (by rw [c19_2]; decide) (by rw [c19_2]; decide) (by rw [c19_2]; rfl) (by decide) ?_
          refine lv_aload_n hx hb dX0_readLine_68 rfl (lv_at hl3 1 rfl) ?_
          refine lv_iload_n hx hb dX0_readLine_69 rfl (lv_at hl3 0 rfl) ?_
          obtain ⟨y70, hy70, hm⟩ := bn hm
          refine cVWi (As := [.int z17]) (rest := []) (Wn := fun (uu : SV × SV) => wX0 q a uu.1 (b 99) ++ wX3 q b uu.2) X hP2 hD2 hS2 (fun _ h => Or.inr h) hl3.1 (c_X0_readSitter l D q H2.size a v b u z17 y70 hy70) [0, 1, 2, 3, 4, 5, 6, 7, 8, 9, 10, 11, 12, 13] [] [0, 1, 2, 3, 4, 5, 6, 7, 8, 9, 10, 11, 12, 13] rfl (Wr := []) rfl (by decide) (by decide) (by decide) (by decide) (fun _ => rfl) 0 rfl rfl rfl k_450 mX0_readSitter ⟨rfl, rfl⟩ ⟨Nat.le_of_ble_eq_true rfl, Nat.le_of_ble_eq_true rfl⟩ rfl rfl (Nat.le_of_ble_eq_true rfl) dX0_readLine_70 ⟨Nat.zero_le _, Nat.zero_le _⟩ (fun H6 locs6 hP hD hS6 => ?_)
          have hP6 : va_P D cls (wX0 q a y70.2.1 (b 99) ++ wX3 q b y70.2.2) H6 := hP
          have hD6 : va_D (va_A (wX0 q a v (b 99) ++ wX3 q b u) s.heap.size) (wX0 q a y70.2.1 (b 99) ++ wX3 q b y70.2.2) := hD
          clear hP hD hP2 hD2 hS2
          obtain ⟨hz0, hm⟩ := ckd hm
          have hnz := nz_nar hz0
          exact eWz (Wf := fun (uu : SV × SV) => wX0 q a uu.1 (b 99) ++ wX3 q b uu.2) (u := (y70.2.1, y70.2.2)) X hr hlocks hnz hP6 hD6 hS6 hm dX0_readLine_73
        · replace hm := tn hm c19_2
          by_cases c19_3 : z17 = (3 : Int32)
          · replace hm := tp hm c19_3
            refine lv_tableIn (off := 49) (tgt := 68) hx hb dX0_readLine_19 (by rw [c19_3]; decide) (by rw [c19_3]; decide) (by rw [c19_3]; rfl) (by decide) ?_
            refine lv_aload_n hx hb dX0_readLine_68 rfl (lv_at hl3 1 rfl) ?_
            refine lv_iload_n hx hb dX0_readLine_69 rfl (lv_at hl3 0 rfl) ?_
            obtain ⟨y70, hy70, hm⟩ := bn hm
            refine cVWi (As := [.int z17]) (rest := []) (Wn := fun (uu : SV × SV) => wX0 q a uu.1 (b 99) ++ wX3 q b uu.2) X hP2 hD2 hS2 (fun _ h => Or.inr h) hl3.1 (c_X0_readSitter l D q H2.size a v b u z17 y70 hy70) [0, 1, 2, 3, 4, 5, 6, 7, 8, 9, 10, 11, 12, 13] [] [0, 1, 2, 3, 4, 5, 6, 7, 8, 9, 10, 11, 12, 13] rfl (Wr := []) rfl (by decide) (by decide) (by decide) (by decide) (fun _ => rfl) 0 rfl rfl rfl k_450 mX0_readSitter ⟨rfl, rfl⟩ ⟨Nat.le_of_ble_eq_true rfl, Nat.le_of_ble_eq_true rfl⟩ rfl rfl (Nat.le_of_ble_eq_true rfl) dX0_readLine_70 ⟨Nat.zero_le _, Nat.zero_le _⟩ (fun H7 locs7 hP hD hS7 => ?_)
            have hP7 : va_P D cls (wX0 q a y70.2.1 (b 99) ++ wX3 q b y70.2.2) H7 := hP
            have hD7 : va_D (va_A (wX0 q a v (b 99) ++ wX3 q b u) s.heap.size) (wX0 q a y70.2.1 (b 99) ++ wX3 q b y70.2.2) := hD
            clear hP hD hP2 hD2 hS2
            obtain ⟨hz0, hm⟩ := ckd hm
            have hnz := nz_nar hz0
            exact eWz (Wf := fun (uu : SV × SV) => wX0 q a uu.1 (b 99) ++ wX3 q b uu.2) (u := (y70.2.1, y70.2.2)) X hr hlocks hnz hP7 hD7 hS7 hm dX0_readLine_73
          · replace hm := tn hm c19_3
            by_cases c19_4 : z17 = (4 : Int32)
            · replace hm := tp hm c19_4
              refine lv_tableIn (off := 55) (tgt := 74) hx hb dX0_readLine_19 (by rw [c19_4]; decide) (by rw [c19_4]; decide) (by rw [c19_4]; rfl) (by decide) ?_
              refine lv_aload_n hx hb dX0_readLine_74 rfl (lv_at hl3 1 rfl) ?_
              obtain ⟨y75, hy75, hm⟩ := bn hm
              refine cVWi (As := []) (rest := []) (Wn := fun (uu : SV × SV) => wX0 q a uu.1 (b 99) ++ wX3 q b uu.2) X hP2 hD2 hS2 (fun _ h => Or.inr h) hl3.1 (c_X0_readParts l D q H2.size a v b u y75 hy75) [0, 1, 2, 3, 4, 5, 6, 7, 8, 9, 10, 11, 12, 13] [] [0, 1, 2, 3, 4, 5, 6, 7, 8, 9, 10, 11, 12, 13] rfl (Wr := []) rfl (by decide) (by decide) (by decide) (by decide) (fun _ => rfl) 0 rfl rfl rfl k_466 mX0_readParts ⟨rfl, rfl⟩ ⟨Nat.le_of_ble_eq_true rfl, Nat.le_of_ble_eq_true rfl⟩ rfl rfl (Nat.le_of_ble_eq_true rfl) dX0_readLine_75 ⟨Nat.zero_le _, Nat.zero_le _⟩ (fun H8 locs8 hP hD hS8 => ?_)
              have hP8 : va_P D cls (wX0 q a y75.2.1 (b 99) ++ wX3 q b y75.2.2) H8 := hP
              have hD8 : va_D (va_A (wX0 q a v (b 99) ++ wX3 q b u) s.heap.size) (wX0 q a y75.2.1 (b 99) ++ wX3 q b y75.2.2) := hD
              clear hP hD hP2 hD2 hS2
              obtain ⟨hz0, hm⟩ := ckd hm
              have hnz := nz_nar hz0
              exact eWz (Wf := fun (uu : SV × SV) => wX0 q a uu.1 (b 99) ++ wX3 q b uu.2) (u := (y75.2.1, y75.2.2)) X hr hlocks hnz hP8 hD8 hS8 hm dX0_readLine_78
            · replace hm := tn hm c19_4
              by_cases c19_5 : z17 = (5 : Int32)
              · replace hm := tp hm c19_5
                refine lv_tableIn (off := 60) (tgt := 79) hx hb dX0_readLine_19 (by rw [c19_5]; decide) (by rw [c19_5]; decide) (by rw [c19_5]; rfl) (by decide) ?_
                refine lv_aload_n hx hb dX0_readLine_79 rfl (lv_at hl3 1 rfl) ?_
                obtain ⟨y80, hy80, hm⟩ := bn hm
                refine cVWi (As := []) (rest := []) (Wn := fun (uu : SV × SV) => wX0 q a uu.1 (b 99) ++ wX3 q b uu.2) X hP2 hD2 hS2 (fun _ h => Or.inr h) hl3.1 (c_X0_readWorth l D q H2.size a v b u y80 hy80) [0, 1, 2, 3, 4, 5, 6, 7, 8, 9, 10, 11, 12, 13] [] [0, 1, 2, 3, 4, 5, 6, 7, 8, 9, 10, 11, 12, 13] rfl (Wr := []) rfl (by decide) (by decide) (by decide) (by decide) (fun _ => rfl) 0 rfl rfl rfl k_474 mX0_readWorth ⟨rfl, rfl⟩ ⟨Nat.le_of_ble_eq_true rfl, Nat.le_of_ble_eq_true rfl⟩ rfl rfl (Nat.le_of_ble_eq_true rfl) dX0_readLine_80 ⟨Nat.zero_le _, Nat.zero_le _⟩ (fun H9 locs9 hP hD hS9 => ?_)
                have hP9 : va_P D cls (wX0 q a y80.2.1 (b 99) ++ wX3 q b y80.2.2) H9 := hP
                have hD9 : va_D (va_A (wX0 q a v (b 99) ++ wX3 q b u) s.heap.size) (wX0 q a y80.2.1 (b 99) ++ wX3 q b y80.2.2) := hD
                clear hP hD hP2 hD2 hS2
                obtain ⟨hz0, hm⟩ := ckd hm
                have hnz := nz_nar hz0
                exact eWz (Wf := fun (uu : SV × SV) => wX0 q a uu.1 (b 99) ++ wX3 q b uu.2) (u := (y80.2.1, y80.2.2)) X hr hlocks hnz hP9 hD9 hS9 hm dX0_readLine_83
              · replace hm := tn hm c19_5
                by_cases c19_6 : z17 = (6 : Int32)
                · replace hm := tp hm c19_6
                  refine lv_tableIn (off := 65) (tgt := 84) hx hb dX0_readLine_19 (by rw [c19_6]; decide) (by rw [c19_6]; decide) (by rw [c19_6]; rfl) (by decide) ?_
                  refine lv_aload_n hx hb dX0_readLine_84 rfl (lv_at hl3 1 rfl) ?_
                  obtain ⟨y85, hy85, hm⟩ := bn hm
                  refine cVWi (As := []) (rest := []) (Wn := fun (uu : SV × SV) => wX0 q a uu.1 (b 99) ++ wX3 q b uu.2) X hP2 hD2 hS2 (fun _ h => Or.inr h) hl3.1 (c_X0_readBond l D q H2.size a v b u y85 hy85) [0, 1, 2, 3, 4, 5, 6, 7, 8, 9, 10, 11, 12, 13] [] [0, 1, 2, 3, 4, 5, 6, 7, 8, 9, 10, 11, 12, 13] rfl (Wr := []) rfl (by decide) (by decide) (by decide) (by decide) (fun _ => rfl) 0 rfl rfl rfl k_485 mX0_readBond ⟨rfl, rfl⟩ ⟨Nat.le_of_ble_eq_true rfl, Nat.le_of_ble_eq_true rfl⟩ rfl rfl (Nat.le_of_ble_eq_true rfl) dX0_readLine_85 ⟨Nat.zero_le _, Nat.zero_le _⟩ (fun H10 locs10 hP hD hS10 => ?_)
                  have hP10 : va_P D cls (wX0 q a y85.2.1 (b 99) ++ wX3 q b y85.2.2) H10 := hP
                  have hD10 : va_D (va_A (wX0 q a v (b 99) ++ wX3 q b u) s.heap.size) (wX0 q a y85.2.1 (b 99) ++ wX3 q b y85.2.2) := hD
                  clear hP hD hP2 hD2 hS2
                  obtain ⟨hz0, hm⟩ := ckd hm
                  have hnz := nz_nar hz0
                  exact eWz (Wf := fun (uu : SV × SV) => wX0 q a uu.1 (b 99) ++ wX3 q b uu.2) (u := (y85.2.1, y85.2.2)) X hr hlocks hnz hP10 hD10 hS10 hm dX0_readLine_88
                · replace hm := tn hm c19_6
                  by_cases c19_7 : z17 = (7 : Int32)
                  · replace hm := tp hm c19_7
                    refine lv_tableIn (off := 70) (tgt := 89) hx hb dX0_readLine_19 (by rw [c19_7]; decide) (by rw [c19_7]; decide) (by rw [c19_7]; rfl) (by decide) ?_
                    refine lv_aload_n hx hb dX0_readLine_89 rfl (lv_at hl3 1 rfl) ?_
                    obtain ⟨y90, hy90, hm⟩ := bn hm
                    refine cVWi (As := []) (rest := []) (Wn := fun (uu : SV × SV) => wX0 q a uu.1 (b 99) ++ wX3 q b uu.2) X hP2 hD2 hS2 (fun _ h => Or.inr h) hl3.1 (c_X0_readForger l D q H2.size a v b u y90 hy90) [0, 1, 2, 3, 4, 5, 6, 7, 8, 9, 10, 11, 12, 13] [] [0, 1, 2, 3, 4, 5, 6, 7, 8, 9, 10, 11, 12, 13] rfl (Wr := []) rfl (by decide) (by decide) (by decide) (by decide) (fun _ => rfl) 0 rfl rfl rfl k_489 mX0_readForger ⟨rfl, rfl⟩ ⟨Nat.le_of_ble_eq_true rfl, Nat.le_of_ble_eq_true rfl⟩ rfl rfl (Nat.le_of_ble_eq_true rfl) dX0_readLine_90 ⟨Nat.zero_le _, Nat.zero_le _⟩ (fun H11 locs11 hP hD hS11 => ?_)
                    have hP11 : va_P D cls (wX0 q a y90.2.1 (b 99) ++ wX3 q b y90.2.2) H11 := hP
                    have hD11 : va_D (va_A (wX0 q a v (b 99) ++ wX3 q b u) s.heap.size) (wX0 q a y90.2.1 (b 99) ++ wX3 q b y90.2.2) := hD
                    clear hP hD hP2 hD2 hS2
                    obtain ⟨hz0, hm⟩ := ckd hm
                    have hnz := nz_nar hz0
                    exact eWz (Wf := fun (uu : SV × SV) => wX0 q a uu.1 (b 99) ++ wX3 q b uu.2) (u := (y90.2.1, y90.2.2)) X hr hlocks hnz hP11 hD11 hS11 hm dX0_readLine_93
                  · replace hm := tn hm c19_7
                    by_cases c19_8 : z17 = (8 : Int32)
                    · replace hm := tp hm c19_8
                      refine lv_tableIn (off := 75) (tgt := 94) hx hb dX0_readLine_19 (by rw [c19_8]; decide) (by rw [c19_8]; decide) (by rw [c19_8]; rfl) (by decide) ?_
                      refine lv_aload_n hx hb dX0_readLine_94 rfl (lv_at hl3 1 rfl) ?_
                      obtain ⟨y95, hy95, hm⟩ := bn hm
                      refine cVWi (As := []) (rest := []) (Wn := fun (uu : SV × SV) => wX0 q a uu.1 (b 99) ++ wX3 q b uu.2) X hP2 hD2 hS2 (fun _ h => Or.inr h) hl3.1 (c_X0_readPaint l D q H2.size a v b u y95 hy95) [0, 1, 2, 3, 4, 5, 6, 7, 8, 9, 10, 11, 12, 13] [] [0, 1, 2, 3, 4, 5, 6, 7, 8, 9, 10, 11, 12, 13] rfl (Wr := []) rfl (by decide) (by decide) (by decide) (by decide) (fun _ => rfl) 0 rfl rfl rfl k_493 mX0_readPaint ⟨rfl, rfl⟩ ⟨Nat.le_of_ble_eq_true rfl, Nat.le_of_ble_eq_true rfl⟩ rfl rfl (Nat.le_of_ble_eq_true rfl) dX0_readLine_95 ⟨Nat.zero_le _, Nat.zero_le _⟩ (fun H12 locs12 hP hD hS12 => ?_)
                      have hP12 : va_P D cls (wX0 q a y95.2.1 (b 99) ++ wX3 q b y95.2.2) H12 := hP
                      have hD12 : va_D (va_A (wX0 q a v (b 99) ++ wX3 q b u) s.heap.size) (wX0 q a y95.2.1 (b 99) ++ wX3 q b y95.2.2) := hD
                      clear hP hD hP2 hD2 hS2
                      obtain ⟨hz0, hm⟩ := ckd hm
                      have hnz := nz_nar hz0
                      exact eWz (Wf := fun (uu : SV × SV) => wX0 q a uu.1 (b 99) ++ wX3 q b uu.2) (u := (y95.2.1, y95.2.2)) X hr hlocks hnz hP12 hD12 hS12 hm dX0_readLine_98
                    · replace hm := tn hm c19_8
                      have hk19 : z17.toInt < 0 ∨ 8 < z17.toInt := by
                        have g0 := lv_neT c19_0 (show ((0 : Int32)).toInt = 0 from rfl)
                        have g1 := lv_neT c19_1 (show ((1 : Int32)).toInt = 1 from rfl)
                        have g2 := lv_neT c19_2 (show ((2 : Int32)).toInt = 2 from rfl)
                        have g3 := lv_neT c19_3 (show ((3 : Int32)).toInt = 3 from rfl)
                        have g4 := lv_neT c19_4 (show ((4 : Int32)).toInt = 4 from rfl)
                        have g5 := lv_neT c19_5 (show ((5 : Int32)).toInt = 5 from rfl)
                        have g6 := lv_neT c19_6 (show ((6 : Int32)).toInt = 6 from rfl)
                        have g7 := lv_neT c19_7 (show ((7 : Int32)).toInt = 7 from rfl)
                        have g8 := lv_neT c19_8 (show ((8 : Int32)).toInt = 8 from rfl)
                        omega
                      refine lv_tableOut (tgt := 99) hx hb dX0_readLine_19 hk19 (by decide) ?_
                      refine lv_aload_n hx hb dX0_readLine_99 rfl (lv_at hl3 1 rfl) ?_
                      refine lv_iconst (v := (2 : Int32)) hx hb dX0_readLine_100 (by decide) ?_
                      refine lv_aload_n hx hb dX0_readLine_101 rfl (lv_at hl3 1 rfl) ?_
                      refine va_get (D := D) (ci := 0) (v := .int (v 0 6)) (C := RX0) (T := TX0) (N := 13) hx hb hW iX0 hown hK hP2 0 rfl rfl 6 (by decide) (hW _ k_183) (fun _ h => h) rfl dX0_readLine_102 ?_
                      obtain ⟨y105, hy105, hm⟩ := bn hm
                      refine cVWi (As := [.int (2 : Int32), .int (v 0 6)]) (rest := []) (Wn := fun (uu : SV) => wX0 q a uu (b 99) ++ wX3 q b u) X hP2 hD2 hS2 (fun _ h => Or.inr h) hl3.1 (c_X0_refuse l D q H2.size a v b u (2 : Int32) (v 0 6) y105 hy105) [0, 1, 2, 3, 4, 5, 6, 7, 8, 9, 10, 11, 12, 13] [] [0, 1, 2, 3, 4, 5, 6, 7, 8, 9, 10, 11, 12, 13] rfl (Wr := []) rfl (by decide) (by decide) (by decide) (by decide) (fun _ => rfl) 0 rfl rfl rfl k_374 mX0_refuse ⟨rfl, rfl⟩ ⟨Nat.le_of_ble_eq_true rfl, Nat.le_of_ble_eq_true rfl⟩ rfl rfl (Nat.le_of_ble_eq_true rfl) dX0_readLine_105 ⟨Nat.zero_le _, Nat.zero_le _⟩ (fun H13 locs13 hP hD hS13 => ?_)
                      have hP13 : va_P D cls (wX0 q a y105.2 (b 99) ++ wX3 q b u) H13 := hP
                      have hD13 : va_D (va_A (wX0 q a v (b 99) ++ wX3 q b u) s.heap.size) (wX0 q a y105.2 (b 99) ++ wX3 q b u) := hD
                      clear hP hD hP2 hD2 hS2
                      obtain ⟨hz0, hm⟩ := ckd hm
                      have hnz := nz_nar hz0
                      exact eWz (Wf := fun (uu : SV × SV) => wX0 q a uu.1 (b 99) ++ wX3 q b uu.2) (u := (y105.2, u)) X hr hlocks hnz hP13 hD13 hS13 hm dX0_readLine_108
  refine lv_icmp_ne (tgt := 15) hx hb dX0_readLine_5 (by decide) (fun c5 => ?_) (fun c5 => ?_)
  · replace hm := tn hm c5
    refine lv_bipush (v := (-4 : Int32)) hx hb dX0_readLine_15 (by decide) ?_
    exact hJ17 (-4 : Int32) hm _ _ hP0 hD0 hS0 _ (lv_sub hl0 [0] rfl)
  · replace hm := tp hm c5
    refine lv_aload_n hx hb dX0_readLine_8 rfl (lv_at hl0 0 rfl) ?_
    obtain ⟨y9, hy9, hm⟩ := bn hm
    refine cVRTi (As := []) (rest := []) X hE hR' hP0 hS0 hl0.1 (c_X0_lineBegun l D q aK aV a v b u y9 hy9) [0, 1, 2, 3, 4, 5, 6, 7, 8, 9, 10, 11, 12, 13] rfl 0 rfl rfl rfl k_382 mX0_lineBegun ⟨rfl, rfl⟩ ⟨Nat.le_of_ble_eq_true rfl, Nat.le_of_ble_eq_true rfl⟩ rfl rfl (Nat.le_of_ble_eq_true rfl) dX0_readLine_9 ⟨Nat.zero_le _, Nat.zero_le _⟩ ?_
    refine lv_goto (tgt := 17) hx hb dX0_readLine_12 (by decide) ?_
    exact hJ17 y9 hm _ _ hP0 hD0 hS0 _ (lv_sub hl0 [0] rfl)
noncomputable def m_X0_readText_J121 (z41 : Int32 × SV × SV) (z121 : SV) : Option (Int32 × SV × SV) :=
  lett (up2 z121 0 1 (0 : Int32)) (fun v15_ => (if (v15_ 0 3) = 0 then some (z41.1, v15_, z41.2.2) else some (((-10 : Int32) - (v15_ 0 4)), v15_, z41.2.2)))
noncomputable def m_X0_readText_J110 (z41 : Int32 × SV × SV) (z110 : Unit) : Option (Int32 × SV × SV) :=
  (m_X0_refuse z41.2.1 z41.2.2 (6 : Int32) (z41.2.1 0 1)).bind (fun y117 => m_X0_readText_J121 z41 y117.2)
noncomputable def m_X0_readText_K41 (z41 : Int32 × SV × SV) : Option (Int32 × SV × SV) :=
  (if (z41.2.1 0 3) = 0 then (if (z41.2.2 0 0) ≤ (z41.2.1 0 11) then m_X0_readText_J110 z41 () else (if (z41.2.1 0 12) < (z41.2.2 0 1) then m_X0_readText_J121 z41 z41.2.1 else m_X0_readText_J110 z41 ())) else m_X0_readText_J121 z41 z41.2.1)
noncomputable def m_X0_readText_L41 (z41 : Int32 × SV × SV) : Option ((Int32 × SV × SV) ⊕ (Int32 × SV × SV)) :=
  (if (160 : Int32) < z41.1 then some (.inr (z41.1, z41.2.1, z41.2.2)) else (m_X0_readToken z41.2.1 z41.2.2).bind (fun y49 => (if y49.1 = 0 then some (.inr (z41.1, y49.2, z41.2.2)) else (if (y49.2 0 5) = 0 then some (.inr (z41.1, y49.2, z41.2.2)) else (m_X0_readLine y49.2 z41.2.2).bind (fun y63 => (if y63.1 = 0 then some (.inr (z41.1, y63.2.1, y63.2.2)) else some (.inl ((z41.1 + (1 : Int32)), y63.2.1, y63.2.2))))))))
noncomputable def m_X0_readText (v : SV) (u : SV) : Option (Int32 × SV × SV) :=
  (m_X3_clear u).bind (fun y4 => lett (up2 v 0 3 (0 : Int32)) (fun v2_ => lett (up2 v2_ 0 7 (0 : Int32)) (fun v3_ => lett (up2 v3_ 0 9 (0 : Int32)) (fun v4_ => lett (up2 v4_ 0 10 (0 : Int32)) (fun v5_ => lett (up2 v5_ 0 11 (-4 : Int32)) (fun v6_ => lett (up2 v6_ 0 12 (-4 : Int32)) (fun v7_ => (lpC (m_X0_readText_L41) ((0 : Int32), v7_, y4)).bind (m_X0_readText_K41))))))))
set_option maxHeartbeats 4000000 in
set_option maxRecDepth 100000 in
theorem c_X0_readText (l : Launch) (D : va_G) (q : Nat → ClassId) (sz : Nat) (aK aV : Nat → Nat) (a : Nat → Nat) (v : SV) (b : Nat → Nat) (u : SV) (res : Int32 × SV × SV) (hm : m_X0_readText v u = some res) : Met l yX0_readText (mw yX0_readText cX0_readText 2 (some .int)) ({ frames := 7, cells := 0, slots := 0, locals := 151 } : Room) (pcWT D q aK aV (wX0 q a v (b 99) ++ wX3 q b u) sz [.ref (a 99)]) (va_Qi (fun r w => r = res.1 ∧ w = res.2) (bW D q (wX0 q a v (b 99) ++ wX3 q b u) sz (fun (uu : SV × SV) => wX0 q a uu.1 (b 99) ++ wX3 q b uu.2)) (va_A (wX0 q a v (b 99) ++ wX3 q b u) sz)) 0 0 (va_A (wX0 q a v (b 99) ++ wX3 q b u) sz) := by
  refine Met.ofW (cc := cX0_readText) (maxL := 2) (ret := (some .int)) (by decide) rfl ?_
  intro p e s m args below meth c s₁ B hml hv
  obtain ⟨rfl, hsz, hP0, hK, hD0, hE, hR'⟩ := hv
  have hx := B.exec
  have hb := B.bytes
  have hr := B.returns
  have hW := mw_ws (atoms_spec (ws := mw yX0_readText cX0_readText 2 (some .int)) B.pre)
  have hown : s.vm.findClass RX0 = some m.cls := findClass_of_methodNamed B.named
  have hlocks := B.notSynchronized
  have X : Cx p s m [.ref (a 99)].toArray c cX0_readText 2 RX0 D q := ⟨hx, hb, hml, hown, hW, hK⟩
  subst hsz
  replace hD0 := hD0.self (sz := s.heap.size)
  have hS0 : va_S (va_A (wX0 q a v (b 99) ++ wX3 q b u) s.heap.size) s.heap s.heap [] := va_S.rf
  have hl0 := lv_entry ([.ref (a 99)]) (n := 2) (Nat.le_of_ble_eq_true rfl)
  rw [lg_entry_eq]
  generalize (lg_sl ([.ref (a 99)]) ++ List.replicate (2 - (lg_sl ([.ref (a 99)])).length) Slot.unset).toArray = ls0 at hl0 ⊢
  have hl0 : lv_has ls0 2 [(0, .ref (a 99))] := hl0
  unfold m_X0_readText at hm
  refine lv_aload_n hx hb dX0_readText_0 rfl (lv_at hl0 0 rfl) ?_
  refine va_get (D := D) (ci := 0) (v := .ref (b 99)) (C := RX0) (T := TX0) (N := 13) hx hb hW iX0 hown hK hP0 0 rfl rfl 2 (by decide) (hW _ k_177) (fun _ h => h) rfl dX0_readText_1 ?_
  obtain ⟨y4, hy4, hm⟩ := bn hm
  refine cVWv (As := []) (rest := []) (Wn := fun (uu : SV) => wX0 q a v (b 99) ++ wX3 q b uu) X hP0 hD0 hS0 (fun _ h => Or.inr h) hl0.1 (c_X3_clear l D q s.heap.size b u y4 hy4) [2, 3, 4, 5, 6, 7, 8, 9, 10, 11, 12, 13] [0, 1] [0, 1, 2, 3, 4, 5, 6, 7, 8, 9, 10, 11, 12, 13] rfl (Wr := wX0 q a v (b 99)) rfl (by decide) (by decide) (by decide) (by decide) (fun _ => rfl) 2 rfl rfl rfl k_365 mX3_clear ⟨rfl, rfl⟩ ⟨Nat.le_of_ble_eq_true rfl, Nat.le_of_ble_eq_true rfl⟩ rfl rfl (Nat.le_of_ble_eq_true rfl) dX0_readText_4 ⟨Nat.zero_le _, Nat.zero_le _⟩ (fun H1 locs1 hP hD hS1 => ?_)
  have hP1 : va_P D cls (wX0 q a v (b 99) ++ wX3 q b y4) H1 := hP
  have hD1 : va_D (va_A (wX0 q a v (b 99) ++ wX3 q b u) s.heap.size) (wX0 q a v (b 99) ++ wX3 q b y4) := hD
  clear hP hD hP0 hD0 hS0
  refine lv_aload_n hx hb dX0_readText_7 rfl (lv_at hl0 0 rfl) ?_
  refine lv_iconst (v := (0 : Int32)) hx hb dX0_readText_8 (by decide) ?_
  refine va_put (D := D) (ci := 0) (v := .int (0 : Int32)) (ty := .int) (C := RX0) (T := TX0) (N := 13) hx hb hW iX0 tyX0 tyX0_ok nmX0 hown hK hP1 hD1 hS1 0 rfl rfl 3 (by decide) (hW _ k_179) (fun _ h => h) rfl (by decide +kernel) rfl rfl (Nat.le_of_ble_eq_true rfl) dX0_readText_9 (fun H2 locs2 hP hD hS2 => ?_)
  obtain ⟨v2_, e2, hm⟩ := ltd hm
  have hP2 : va_P D cls (wX0 q a v2_ (b 99) ++ wX3 q b y4) H2 := by rw [e2]; exact hP
  have hD2 : va_D (va_A (wX0 q a v (b 99) ++ wX3 q b u) s.heap.size) (wX0 q a v2_ (b 99) ++ wX3 q b y4) := by rw [e2]; exact hD
  clear hP hD hP1 hD1 hS1
  refine lv_aload_n hx hb dX0_readText_12 rfl (lv_at hl0 0 rfl) ?_
  refine lv_iconst (v := (0 : Int32)) hx hb dX0_readText_13 (by decide) ?_
  refine va_put (D := D) (ci := 0) (v := .int (0 : Int32)) (ty := .int) (C := RX0) (T := TX0) (N := 13) hx hb hW iX0 tyX0 tyX0_ok nmX0 hown hK hP2 hD2 hS2 0 rfl rfl 7 (by decide) (hW _ k_184) (fun _ h => h) rfl (by decide +kernel) rfl rfl (Nat.le_of_ble_eq_true rfl) dX0_readText_14 (fun H3 locs3 hP hD hS3 => ?_)
  obtain ⟨v3_, e3, hm⟩ := ltd hm
  have hP3 : va_P D cls (wX0 q a v3_ (b 99) ++ wX3 q b y4) H3 := by rw [e3]; exact hP
  have hD3 : va_D (va_A (wX0 q a v (b 99) ++ wX3 q b u) s.heap.size) (wX0 q a v3_ (b 99) ++ wX3 q b y4) := by rw [e3]; exact hD
  clear hP hD hP2 hD2 hS2
  refine lv_aload_n hx hb dX0_readText_17 rfl (lv_at hl0 0 rfl) ?_
  refine lv_iconst (v := (0 : Int32)) hx hb dX0_readText_18 (by decide) ?_
  refine va_put (D := D) (ci := 0) (v := .int (0 : Int32)) (ty := .boolean) (C := RX0) (T := TX0) (N := 13) hx hb hW iX0 tyX0 tyX0_ok nmX0 hown hK hP3 hD3 hS3 0 rfl rfl 9 (by decide) (hW _ k_186) (fun _ h => h) rfl (by decide +kernel) rfl rfl (Nat.le_of_ble_eq_true rfl) dX0_readText_19 (fun H4 locs4 hP hD hS4 => ?_)
  obtain ⟨v4_, e4, hm⟩ := ltd hm
  have hP4 : va_P D cls (wX0 q a v4_ (b 99) ++ wX3 q b y4) H4 := by rw [e4]; exact hP
  have hD4 : va_D (va_A (wX0 q a v (b 99) ++ wX3 q b u) s.heap.size) (wX0 q a v4_ (b 99) ++ wX3 q b y4) := by rw [e4]; exact hD
  clear hP hD hP3 hD3 hS3
  refine lv_aload_n hx hb dX0_readText_22 rfl (lv_at hl0 0 rfl) ?_
  refine lv_iconst (v := (0 : Int32)) hx hb dX0_readText_23 (by decide) ?_
  refine va_put (D := D) (ci := 0) (v := .int (0 : Int32)) (ty := .int) (C := RX0) (T := TX0) (N := 13) hx hb hW iX0 tyX0 tyX0_ok nmX0 hown hK hP4 hD4 hS4 0 rfl rfl 10 (by decide) (hW _ k_187) (fun _ h => h) rfl (by decide +kernel) rfl rfl (Nat.le_of_ble_eq_true rfl) dX0_readText_24 (fun H5 locs5 hP hD hS5 => ?_)
  obtain ⟨v5_, e5, hm⟩ := ltd hm
  have hP5 : va_P D cls (wX0 q a v5_ (b 99) ++ wX3 q b y4) H5 := by rw [e5]; exact hP
  have hD5 : va_D (va_A (wX0 q a v (b 99) ++ wX3 q b u) s.heap.size) (wX0 q a v5_ (b 99) ++ wX3 q b y4) := by rw [e5]; exact hD
  clear hP hD hP4 hD4 hS4
  refine lv_aload_n hx hb dX0_readText_27 rfl (lv_at hl0 0 rfl) ?_
  refine lv_bipush (v := (-4 : Int32)) hx hb dX0_readText_28 (by decide) ?_
  refine va_put (D := D) (ci := 0) (v := .int (-4 : Int32)) (ty := .int) (C := RX0) (T := TX0) (N := 13) hx hb hW iX0 tyX0 tyX0_ok nmX0 hown hK hP5 hD5 hS5 0 rfl rfl 11 (by decide) (hW _ k_188) (fun _ h => h) rfl (by decide +kernel) rfl rfl (Nat.le_of_ble_eq_true rfl) dX0_readText_30 (fun H6 locs6 hP hD hS6 => ?_)
  obtain ⟨v6_, e6, hm⟩ := ltd hm
  have hP6 : va_P D cls (wX0 q a v6_ (b 99) ++ wX3 q b y4) H6 := by rw [e6]; exact hP
  have hD6 : va_D (va_A (wX0 q a v (b 99) ++ wX3 q b u) s.heap.size) (wX0 q a v6_ (b 99) ++ wX3 q b y4) := by rw [e6]; exact hD
  clear hP hD hP5 hD5 hS5
  refine lv_aload_n hx hb dX0_readText_33 rfl (lv_at hl0 0 rfl) ?_
  refine lv_bipush (v := (-4 : Int32)) hx hb dX0_readText_34 (by decide) ?_
  refine va_put (D := D) (ci := 0) (v := .int (-4 : Int32)) (ty := .int) (C := RX0) (T := TX0) (N := 13) hx hb hW iX0 tyX0 tyX0_ok nmX0 hown hK hP6 hD6 hS6 0 rfl rfl 12 (by decide) (hW _ k_189) (fun _ h => h) rfl (by decide +kernel) rfl rfl (Nat.le_of_ble_eq_true rfl) dX0_readText_36 (fun H7 locs7 hP hD hS7 => ?_)
  obtain ⟨v7_, e7, hm⟩ := ltd hm
  have hP7 : va_P D cls (wX0 q a v7_ (b 99) ++ wX3 q b y4) H7 := by rw [e7]; exact hP
  have hD7 : va_D (va_A (wX0 q a v (b 99) ++ wX3 q b u) s.heap.size) (wX0 q a v7_ (b 99) ++ wX3 q b y4) := by rw [e7]; exact hD
  clear hP hD hP6 hD6 hS6
  refine lv_iconst (v := (0 : Int32)) hx hb dX0_readText_39 (by decide) ?_
  refine lv_istore_n (lv' := [(1, .int (0 : Int32)), (0, .ref (a 99))]) hx hb dX0_readText_40 rfl hl0 (by decide) rfl (fun ls8 hl8 => ?_)
  clear hl0
  obtain ⟨r41, hr41, hm⟩ := bn hm
  obtain ⟨n41, hn41⟩ := lpC_ex hr41
  have hE41 : ∀ z41 : Int32 × SV × SV, m_X0_readText_K41 z41 = some res → ∀ (H : Heap) (locs : List Loc), va_P D cls (wX0 q a z41.2.1 (b 99) ++ wX3 q b z41.2.2) H → va_D (va_A (wX0 q a v (b 99) ++ wX3 q b u) s.heap.size) (wX0 q a z41.2.1 (b 99) ++ wX3 q b z41.2.2) → va_S (va_A (wX0 q a v (b 99) ++ wX3 q b u) s.heap.size) s.heap H locs → ∀ ls : Array Slot, lv_has ls 2 [(0, .ref (a 99)), (1, .int z41.1)] → W p l e ((headSpec (mw yX0_readText cX0_readText 2 (some .int)) ({ frames := 7, cells := 0, slots := 0, locals := 151 } : Room)).room) s m [.ref (a 99)].toArray below meth c H locs 0 0 (MQ below (va_Qi (fun r w => r = res.1 ∧ w = res.2) (bW D q (wX0 q a v (b 99) ++ wX3 q b u) s.heap.size (fun (uu : SV × SV) => wX0 q a uu.1 (b 99) ++ wX3 q b uu.2)) (va_A (wX0 q a v (b 99) ++ wX3 q b u) s.heap.size)) [.ref (a 99)].toArray s 0 0 (va_A (wX0 q a v (b 99) ++ wX3 q b u) s.heap.size)) (F0 m 75 ls []) := by
    intro z41 hm H12 locs12 hP12 hD12 hS12 ls11 hl11
    unfold m_X0_readText_K41 at hm
    refine lv_aload_n hx hb dX0_readText_75 rfl (lv_at hl11 0 rfl) ?_
    refine va_get (D := D) (ci := 0) (v := .int (z41.2.1 0 3)) (C := RX0) (T := TX0) (N := 13) hx hb hW iX0 hown hK hP12 0 rfl rfl 3 (by decide) (hW _ k_179) (fun _ h => h) rfl dX0_readText_76 ?_
    have hJ121 : ∀ z121 : SV, m_X0_readText_J121 z41 z121 = some res → ∀ (H : Heap) (locs : List Loc), va_P D cls (wX0 q a z121 (b 99) ++ wX3 q b z41.2.2) H → va_D (va_A (wX0 q a v (b 99) ++ wX3 q b u) s.heap.size) (wX0 q a z121 (b 99) ++ wX3 q b z41.2.2) → va_S (va_A (wX0 q a v (b 99) ++ wX3 q b u) s.heap.size) s.heap H locs → ∀ ls : Array Slot, lv_has ls 2 [(0, .ref (a 99)), (1, .int z41.1)] → W p l e ((headSpec (mw yX0_readText cX0_readText 2 (some .int)) ({ frames := 7, cells := 0, slots := 0, locals := 151 } : Room)).room) s m [.ref (a 99)].toArray below meth c H locs 0 0 (MQ below (va_Qi (fun r w => r = res.1 ∧ w = res.2) (bW D q (wX0 q a v (b 99) ++ wX3 q b u) s.heap.size (fun (uu : SV × SV) => wX0 q a uu.1 (b 99) ++ wX3 q b uu.2)) (va_A (wX0 q a v (b 99) ++ wX3 q b u) s.heap.size)) [.ref (a 99)].toArray s 0 0 (va_A (wX0 q a v (b 99) ++ wX3 q b u) s.heap.size)) (F0 m 121 ls []) := by
      intro z121 hm H14 locs14 hP14 hD14 hS14 ls13 hl13
      unfold m_X0_readText_J121 at hm
      refine lv_aload_n hx hb dX0_readText_121 rfl (lv_at hl13 0 rfl) ?_
      refine lv_iconst (v := (0 : Int32)) hx hb dX0_readText_122 (by decide) ?_
      refine va_put (D := D) (ci := 0) (v := .int (0 : Int32)) (ty := .int) (C := RX0) (T := TX0) (N := 13) hx hb hW iX0 tyX0 tyX0_ok nmX0 hown hK hP14 hD14 hS14 0 rfl rfl 1 (by decide) (hW _ k_175) (fun _ h => h) rfl (by decide +kernel) rfl rfl (Nat.le_of_ble_eq_true rfl) dX0_readText_123 (fun H15 locs15 hP hD hS15 => ?_)
      obtain ⟨v15_, e15, hm⟩ := ltd hm
      have hP15 : va_P D cls (wX0 q a v15_ (b 99) ++ wX3 q b z41.2.2) H15 := by rw [e15]; exact hP
      have hD15 : va_D (va_A (wX0 q a v (b 99) ++ wX3 q b u) s.heap.size) (wX0 q a v15_ (b 99) ++ wX3 q b z41.2.2) := by rw [e15]; exact hD
      clear hP hD hP14 hD14 hS14
      refine lv_aload_n hx hb dX0_readText_126 rfl (lv_at hl13 0 rfl) ?_
      refine va_get (D := D) (ci := 0) (v := .int (v15_ 0 3)) (C := RX0) (T := TX0) (N := 13) hx hb hW iX0 hown hK hP15 0 rfl rfl 3 (by decide) (hW _ k_179) (fun _ h => h) rfl dX0_readText_127 ?_
      refine lv_if_ne (tgt := 137) hx hb dX0_readText_130 (by decide) (fun c130 => ?_) (fun c130 => ?_)
      · replace hm := tn hm c130
        refine lv_bipush (v := (-10 : Int32)) hx hb dX0_readText_137 (by decide) ?_
        refine lv_aload_n hx hb dX0_readText_139 rfl (lv_at hl13 0 rfl) ?_
        refine va_get (D := D) (ci := 0) (v := .int (v15_ 0 4)) (C := RX0) (T := TX0) (N := 13) hx hb hW iX0 hown hK hP15 0 rfl rfl 4 (by decide) (hW _ k_181) (fun _ h => h) rfl dX0_readText_140 ?_
        refine lv_isub hx hb dX0_readText_143 ?_
        exact eWi (Wf := fun (uu : SV × SV) => wX0 q a uu.1 (b 99) ++ wX3 q b uu.2) (u := (v15_, z41.2.2)) X hr hlocks hP15 hD15 hS15 hm dX0_readText_144
      · replace hm := tp hm c130
        refine lv_iload_n hx hb dX0_readText_133 rfl (lv_at hl13 1 rfl) ?_
        refine lv_goto (tgt := 144) hx hb dX0_readText_134 (by decide) ?_
        exact eWi (Wf := fun (uu : SV × SV) => wX0 q a uu.1 (b 99) ++ wX3 q b uu.2) (u := (v15_, z41.2.2)) X hr hlocks hP15 hD15 hS15 hm dX0_readText_144
    refine lv_if_ne (tgt := 121) hx hb dX0_readText_79 (by decide) (fun c79 => ?_) (fun c79 => ?_)
    · replace hm := tn hm c79
      exact hJ121 z41.2.1 hm _ _ hP12 hD12 hS12 _ (lv_sub hl11 [0, 1] rfl)
    · replace hm := tp hm c79
      refine lv_aload_n hx hb dX0_readText_82 rfl (lv_at hl11 0 rfl) ?_
      refine va_get (D := D) (ci := 0) (v := .int (z41.2.1 0 11)) (C := RX0) (T := TX0) (N := 13) hx hb hW iX0 hown hK hP12 0 rfl rfl 11 (by decide) (hW _ k_188) (fun _ h => h) rfl dX0_readText_83 ?_
      refine lv_aload_n hx hb dX0_readText_86 rfl (lv_at hl11 0 rfl) ?_
      refine va_get (D := D) (ci := 0) (v := .ref (b 99)) (C := RX0) (T := TX0) (N := 13) hx hb hW iX0 hown hK hP12 0 rfl rfl 2 (by decide) (hW _ k_177) (fun _ h => h) rfl dX0_readText_87 ?_
      refine va_get (D := D) (ci := 3) (v := .int (z41.2.2 0 0)) (C := RX3) (T := TX3) (N := 17) hx hb hW iX3 hown hK hP12 2 rfl rfl 0 (by decide) (hW _ k_84) (fun _ h => h) rfl dX0_readText_90 ?_
      have hJ110 : ∀ z110 : Unit, m_X0_readText_J110 z41 z110 = some res → ∀ (H : Heap) (locs : List Loc), va_P D cls (wX0 q a z41.2.1 (b 99) ++ wX3 q b z41.2.2) H → va_D (va_A (wX0 q a v (b 99) ++ wX3 q b u) s.heap.size) (wX0 q a z41.2.1 (b 99) ++ wX3 q b z41.2.2) → va_S (va_A (wX0 q a v (b 99) ++ wX3 q b u) s.heap.size) s.heap H locs → ∀ ls : Array Slot, lv_has ls 2 [(0, .ref (a 99)), (1, .int z41.1)] → W p l e ((headSpec (mw yX0_readText cX0_readText 2 (some .int)) ({ frames := 7, cells := 0, slots := 0, locals := 151 } : Room)).room) s m [.ref (a 99)].toArray below meth c H locs 0 0 (MQ below (va_Qi (fun r w => r = res.1 ∧ w = res.2) (bW D q (wX0 q a v (b 99) ++ wX3 q b u) s.heap.size (fun (uu : SV × SV) => wX0 q a uu.1 (b 99) ++ wX3 q b uu.2)) (va_A (wX0 q a v (b 99) ++ wX3 q b u) s.heap.size)) [.ref (a 99)].toArray s 0 0 (va_A (wX0 q a v (b 99) ++ wX3 q b u) s.heap.size)) (F0 m 110 ls []) := by
        intro z110 hm H17 locs17 hP17 hD17 hS17 ls16 hl16
        unfold m_X0_readText_J110 at hm
        refine lv_aload_n hx hb dX0_readText_110 rfl (lv_at hl16 0 rfl) ?_
        refine lv_bipush (v := (6 : Int32)) hx hb dX0_readText_111 (by decide) ?_
        refine lv_aload_n hx hb dX0_readText_113 rfl (lv_at hl16 0 rfl) ?_
        refine va_get (D := D) (ci := 0) (v := .int (z41.2.1 0 1)) (C := RX0) (T := TX0) (N := 13) hx hb hW iX0 hown hK hP17 0 rfl rfl 1 (by decide) (hW _ k_175) (fun _ h => h) rfl dX0_readText_114 ?_
        obtain ⟨y117, hy117, hm⟩ := bn hm
        refine cVWi (As := [.int (6 : Int32), .int (z41.2.1 0 1)]) (rest := []) (Wn := fun (uu : SV) => wX0 q a uu (b 99) ++ wX3 q b z41.2.2) X hP17 hD17 hS17 (fun _ h => Or.inr h) hl16.1 (c_X0_refuse l D q H17.size a z41.2.1 b z41.2.2 (6 : Int32) (z41.2.1 0 1) y117 hy117) [0, 1, 2, 3, 4, 5, 6, 7, 8, 9, 10, 11, 12, 13] [] [0, 1, 2, 3, 4, 5, 6, 7, 8, 9, 10, 11, 12, 13] rfl (Wr := []) rfl (by decide) (by decide) (by decide) (by decide) (fun _ => rfl) 0 rfl rfl rfl k_374 mX0_refuse ⟨rfl, rfl⟩ ⟨Nat.le_of_ble_eq_true rfl, Nat.le_of_ble_eq_true rfl⟩ rfl rfl (Nat.le_of_ble_eq_true rfl) dX0_readText_117 ⟨Nat.zero_le _, Nat.zero_le _⟩ (fun H18 locs18 hP hD hS18 => ?_)
        have hP18 : va_P D cls (wX0 q a y117.2 (b 99) ++ wX3 q b z41.2.2) H18 := hP
        have hD18 : va_D (va_A (wX0 q a v (b 99) ++ wX3 q b u) s.heap.size) (wX0 q a y117.2 (b 99) ++ wX3 q b z41.2.2) := hD
        clear hP hD hP17 hD17 hS17
        refine lv_pop hx hb dX0_readText_120 rfl ?_
        exact hJ121 y117.2 hm _ _ hP18 hD18 hS18 _ (lv_sub hl16 [0, 1] rfl)
      refine lv_icmp_ge (tgt := 110) hx hb dX0_readText_93 (by decide) (fun c93 => ?_) (fun c93 => ?_)
      · replace hm := tp hm c93
        exact hJ110 () hm _ _ hP12 hD12 hS12 _ (lv_sub hl11 [0, 1] rfl)
      · replace hm := tn hm c93
        refine lv_aload_n hx hb dX0_readText_96 rfl (lv_at hl11 0 rfl) ?_
        refine va_get (D := D) (ci := 0) (v := .int (z41.2.1 0 12)) (C := RX0) (T := TX0) (N := 13) hx hb hW iX0 hown hK hP12 0 rfl rfl 12 (by decide) (hW _ k_189) (fun _ h => h) rfl dX0_readText_97 ?_
        refine lv_aload_n hx hb dX0_readText_100 rfl (lv_at hl11 0 rfl) ?_
        refine va_get (D := D) (ci := 0) (v := .ref (b 99)) (C := RX0) (T := TX0) (N := 13) hx hb hW iX0 hown hK hP12 0 rfl rfl 2 (by decide) (hW _ k_177) (fun _ h => h) rfl dX0_readText_101 ?_
        refine va_get (D := D) (ci := 3) (v := .int (z41.2.2 0 1)) (C := RX3) (T := TX3) (N := 17) hx hb hW iX3 hown hK hP12 2 rfl rfl 1 (by decide) (hW _ k_88) (fun _ h => h) rfl dX0_readText_104 ?_
        refine lv_icmp_lt (tgt := 121) hx hb dX0_readText_107 (by decide) (fun c107 => ?_) (fun c107 => ?_)
        · replace hm := tp hm c107
          exact hJ121 z41.2.1 hm _ _ hP12 hD12 hS12 _ (lv_sub hl11 [0, 1] rfl)
        · replace hm := tn hm c107
          exact hJ110 () hm _ _ hP12 hD12 hS12 _ (lv_sub hl11 [0, 1] rfl)
  have hL41 : ∀ (n : Nat) (z41 : Int32 × SV × SV) (ρ41 : Int32 × SV × SV), lpO (m_X0_readText_L41) n z41 = some ρ41 → (m_X0_readText_K41) ρ41 = some res → ∀ (H : Heap) (locs : List Loc), va_P D cls (wX0 q a z41.2.1 (b 99) ++ wX3 q b z41.2.2) H → va_D (va_A (wX0 q a v (b 99) ++ wX3 q b u) s.heap.size) (wX0 q a z41.2.1 (b 99) ++ wX3 q b z41.2.2) → va_S (va_A (wX0 q a v (b 99) ++ wX3 q b u) s.heap.size) s.heap H locs → ∀ ls : Array Slot, lv_has ls 2 [(0, .ref (a 99)), (1, .int z41.1)] → W p l e ((headSpec (mw yX0_readText cX0_readText 2 (some .int)) ({ frames := 7, cells := 0, slots := 0, locals := 151 } : Room)).room) s m [.ref (a 99)].toArray below meth c H locs 0 0 (MQ below (va_Qi (fun r w => r = res.1 ∧ w = res.2) (bW D q (wX0 q a v (b 99) ++ wX3 q b u) s.heap.size (fun (uu : SV × SV) => wX0 q a uu.1 (b 99) ++ wX3 q b uu.2)) (va_A (wX0 q a v (b 99) ++ wX3 q b u) s.heap.size)) [.ref (a 99)].toArray s 0 0 (va_A (wX0 q a v (b 99) ++ wX3 q b u) s.heap.size)) (F0 m 41 ls []) := by
    intro n
    induction n with
    | zero => intro _ _ h; cases h
    | succ n ih41 =>
      intro z41 ρ41 hz41 hK41 H10 locs10 hP10 hD10 hS10 ls9 hl9
      obtain ⟨t41, hm, hz41⟩ := bn hz41
      unfold m_X0_readText_L41 at hm
      refine lv_iload_n hx hb dX0_readText_41 rfl (lv_at hl9 1 rfl) ?_
      refine lv_sipush (v := (160 : Int32)) hx hb dX0_readText_42 (by decide) ?_
      refine lv_icmp_gt (tgt := 75) hx hb dX0_readText_45 (by decide) (fun c45 => ?_) (fun c45 => ?_)
      · replace hm := tp hm c45
        cases hm
        cases hz41
        exact hE41 (z41.1, z41.2.1, z41.2.2) hK41 _ _ hP10 hD10 hS10 _ (lv_sub hl9 [0, 1] rfl)
      · replace hm := tn hm c45
        refine lv_aload_n hx hb dX0_readText_48 rfl (lv_at hl9 0 rfl) ?_
        obtain ⟨y49, hy49, hm⟩ := bn hm
        refine cVWi (As := []) (rest := []) (Wn := fun (uu : SV) => wX0 q a uu (b 99) ++ wX3 q b z41.2.2) X hP10 hD10 hS10 (fun _ h => Or.inr h) hl9.1 (c_X0_readToken l D q H10.size a z41.2.1 b z41.2.2 y49 hy49) [0, 1, 2, 3, 4, 5, 6, 7, 8, 9, 10, 11, 12, 13] [] [0, 1, 2, 3, 4, 5, 6, 7, 8, 9, 10, 11, 12, 13] rfl (Wr := []) rfl (by decide) (by decide) (by decide) (by decide) (fun _ => rfl) 0 rfl rfl rfl k_366 mX0_readToken ⟨rfl, rfl⟩ ⟨Nat.le_of_ble_eq_true rfl, Nat.le_of_ble_eq_true rfl⟩ rfl rfl (Nat.le_of_ble_eq_true rfl) dX0_readText_49 ⟨Nat.zero_le _, Nat.zero_le _⟩ (fun H19 locs19 hP hD hS19 => ?_)
        have hP19 : va_P D cls (wX0 q a y49.2 (b 99) ++ wX3 q b z41.2.2) H19 := hP
        have hD19 : va_D (va_A (wX0 q a v (b 99) ++ wX3 q b u) s.heap.size) (wX0 q a y49.2 (b 99) ++ wX3 q b z41.2.2) := hD
        clear hP hD hP10 hD10 hS10
        refine lv_if_eq (tgt := 75) hx hb dX0_readText_52 (by decide) (fun c52 => ?_) (fun c52 => ?_)
        · replace hm := tp hm c52
          cases hm
          cases hz41
          exact hE41 (z41.1, y49.2, z41.2.2) hK41 _ _ hP19 hD19 hS19 _ (lv_sub hl9 [0, 1] rfl)
        · replace hm := tn hm c52
          refine lv_aload_n hx hb dX0_readText_55 rfl (lv_at hl9 0 rfl) ?_
          refine va_get (D := D) (ci := 0) (v := .int (y49.2 0 5)) (C := RX0) (T := TX0) (N := 13) hx hb hW iX0 hown hK hP19 0 rfl rfl 5 (by decide) (hW _ k_182) (fun _ h => h) rfl dX0_readText_56 ?_
          refine lv_if_eq (tgt := 75) hx hb dX0_readText_59 (by decide) (fun c59 => ?_) (fun c59 => ?_)
          · replace hm := tp hm c59
            cases hm
            cases hz41
            exact hE41 (z41.1, y49.2, z41.2.2) hK41 _ _ hP19 hD19 hS19 _ (lv_sub hl9 [0, 1] rfl)
          · replace hm := tn hm c59
            refine lv_aload_n hx hb dX0_readText_62 rfl (lv_at hl9 0 rfl) ?_
            obtain ⟨y63, hy63, hm⟩ := bn hm
            refine cVWTi (As := []) (rest := []) (Wn := fun (uu : SV × SV) => wX0 q a uu.1 (b 99) ++ wX3 q b uu.2) X hE hR' hP19 hD19 hS19 (fun _ h => Or.inr h) hl9.1 (c_X0_readLine l D q H19.size aK aV a y49.2 b z41.2.2 y63 hy63) [0, 1, 2, 3, 4, 5, 6, 7, 8, 9, 10, 11, 12, 13] [] [0, 1, 2, 3, 4, 5, 6, 7, 8, 9, 10, 11, 12, 13] rfl (Wr := []) rfl (by decide) (by decide) (by decide) (by decide) (fun _ => rfl) 0 rfl rfl rfl k_378 mX0_readLine ⟨rfl, rfl⟩ ⟨Nat.le_of_ble_eq_true rfl, Nat.le_of_ble_eq_true rfl⟩ rfl rfl (Nat.le_of_ble_eq_true rfl) dX0_readText_63 ⟨Nat.zero_le _, Nat.zero_le _⟩ (fun H20 locs20 hP hD hS20 => ?_)
            have hP20 : va_P D cls (wX0 q a y63.2.1 (b 99) ++ wX3 q b y63.2.2) H20 := hP
            have hD20 : va_D (va_A (wX0 q a v (b 99) ++ wX3 q b u) s.heap.size) (wX0 q a y63.2.1 (b 99) ++ wX3 q b y63.2.2) := hD
            clear hP hD hP19 hD19 hS19
            refine lv_if_eq (tgt := 75) hx hb dX0_readText_66 (by decide) (fun c66 => ?_) (fun c66 => ?_)
            · replace hm := tp hm c66
              cases hm
              cases hz41
              exact hE41 (z41.1, y63.2.1, y63.2.2) hK41 _ _ hP20 hD20 hS20 _ (lv_sub hl9 [0, 1] rfl)
            · replace hm := tn hm c66
              refine lv_iinc (v := (z41.1 + (1 : Int32))) (lv' := [(1, .int (z41.1 + (1 : Int32))), (0, .ref (a 99))]) hx hb dX0_readText_69 hl9 (k := 1) rfl rfl (by decide) rfl (fun ls21 hl21 => ?_)
              clear hl9
              refine lv_goto (tgt := 41) hx hb dX0_readText_72 (by decide) ?_
              cases hm
              exact ih41 ((z41.1 + (1 : Int32)), y63.2.1, y63.2.2) ρ41 hz41 hK41 _ _ hP20 hD20 hS20 _ (lv_sub hl21 [1, 0] rfl)
  exact hL41 n41 ((0 : Int32), v7_, y4) r41 hn41 hm _ _ hP7 hD7 hS7 _ (lv_sub hl8 [1, 0] rfl)
