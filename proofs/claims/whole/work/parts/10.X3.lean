def wX3 (q : Nat → ClassId) (a : Nat → Nat) (v : SV) : va_W := [(a 99, .inr (3, [.int (v 0 0), .int (v 0 1), .int (v 0 2), .int (v 0 3), .int (v 0 4), .int (v 0 5), .ref (a 6), .ref (a 7), .ref (a 8), .ref (a 9), .ref (a 10), .ref (a 11), .ref (a 12), .ref (a 13), .ref (a 14), .ref (a 15), .ref (a 16)])), (a 6, .inl (q 0, 6, .inl (v 6))), (a 7, .inl (q 0, 6, .inl (v 7))), (a 8, .inl (q 0, 24, .inl (v 8))), (a 9, .inl (q 0, 5, .inl (v 9))), (a 10, .inl (q 0, 5, .inl (v 10))), (a 11, .inl (q 0, 5, .inl (v 11))), (a 12, .inl (q 0, 5, .inl (v 12))), (a 13, .inl (q 0, 5, .inl (v 13))), (a 14, .inl (q 0, 5, .inl (v 14))), (a 15, .inl (q 0, 5, .inl (v 15))), (a 16, .inl (q 0, 4, .inl (v 16)))]
def wX1 (q : Nat → ClassId) (a : Nat → Nat) (v : SV) : va_W := [(a 99, .inr (1, [.int (v 0 0), .ref (a 1), .ref (a 2), .ref (a 3)])), (a 1, .inl (q 0, 6, .inl (v 1))), (a 2, .inl (q 0, 6, .inl (v 2))), (a 3, .inl (q 2, 6, .inl (v 3)))]
def wX2 (q : Nat → ClassId) (a : Nat → Nat) (v : SV) : va_W := [(a 99, .inr (2, [.int (v 0 0), .int (v 0 1), .ref (a 2)])), (a 2, .inl (q 0, 40, .inl (v 2)))]
def wX6 (q : Nat → ClassId) (a : Nat → Nat) (v : SV) : va_W := [(a 99, .inr (6, [.ref (a 0), .int (v 0 1), .int (v 0 2), .ref (a 3), .int (v 0 4), .ref (a 5), .int (v 0 6), .ref (a 7), .ref (a 8), .ref (a 9), .int (v 0 10), .int (v 0 11), .int (v 0 12), .int (v 0 13), .int (v 0 14), .int (v 0 15), .int (v 0 16), .int (v 0 17), .ref (a 18), .int (v 0 19), .int (v 0 20), .int (v 0 21), .int (v 0 22), .int (v 0 23), .int (v 0 24), .int (v 0 25), .int (v 0 26), .ref (a 27), .ref (a 28), .ref (a 29), .ref (a 30), .ref (a 31), .int (v 0 32), .ref (a 33), .int (v 0 34), .ref (a 35), .ref (a 36), .ref (a 37), .ref (a 38), .int (v 0 39)])), (a 0, .inl (q 0, 315, .inl (v 50))), (a 3, .inl (q 0, 10, .inl (v 3))), (a 5, .inl (q 0, 4, .inl (v 5))), (a 7, .inl (q 0, 63, .inl (v 7))), (a 8, .inl (q 0, 10, .inl (v 8))), (a 9, .inl (q 0, 4, .inl (v 9))), (a 18, .inl (q 0, 160, .inl (v 18))), (a 27, .inl (q 0, 10, .inl (v 27))), (a 28, .inl (q 0, 48, .inl (v 28))), (a 29, .inl (q 0, 5, .inl (v 29))), (a 30, .inl (q 0, 6, .inl (v 30))), (a 31, .inl (q 0, 18, .inl (v 31))), (a 33, .inl (q 0, 36, .inl (v 33))), (a 35, .inl (q 2, 2, .inl (v 35))), (a 36, .inl (q 0, 4, .inl (v 36))), (a 37, .inl (q 0, 4, .inl (v 37))), (a 38, .inl (q 0, 160, .inl (v 38)))]
def wX0 (q : Nat → ClassId) (a : Nat → Nat) (v : SV) (b0 : Nat) : va_W := [(a 99, .inr (0, [.ref (a 0), .int (v 0 1), .ref b0, .int (v 0 3), .int (v 0 4), .int (v 0 5), .int (v 0 6), .int (v 0 7), .int (v 0 8), .int (v 0 9), .int (v 0 10), .int (v 0 11), .int (v 0 12)])), (a 0, .inl (q 1, 160, .inl (v 50)))]
def wX4 (q : Nat → ClassId) (a : Nat → Nat) (v : SV) (b0 e0 : Nat) : va_W := [(a 99, .inr (4, [.ref b0, .ref e0, .int (v 0 2), .int (v 0 3), .int (v 0 4), .int (v 0 5), .int (v 0 6), .ref (a 7), .ref (a 8), .ref (a 9), .ref (a 10), .ref (a 11)])), (a 7, .inl (q 0, 5, .inl (v 7))), (a 8, .inl (q 0, 6, .inl (v 8))), (a 9, .inl (q 0, 6, .inl (v 9))), (a 10, .inl (q 0, 7, .inl (v 10))), (a 11, .inl (q 0, 30, .inl (v 11)))]
def wX5 (q : Nat → ClassId) (ad : Nat → Nat → Nat) (v : SV) : va_W := [(ad 0 99, .inr (5, [.ref (ad 5 99), .ref (ad 1 99), .ref (ad 2 99), .ref (ad 0 3), .ref (ad 0 4), .ref (ad 7 99), .ref (ad 8 99), .ref (ad 0 7), .ref (ad 0 8), .ref (ad 0 9), .int (v 0 10)])), (ad 0 3, .inl (q 3, 2, .inr (.inr (.inr (.inr (va_up (va_up (fun _ => none) (Int32.toNatClampNeg (0 : Int32)) (some (ad 3 99))) (Int32.toNatClampNeg (1 : Int32)) (some (ad 4 99)))))))), (ad 0 4, .inl (q 2, 2, .inl (v 4))), (ad 0 7, .inl (q 4, 4, .inr (.inr (.inr (.inr (va_up (va_up (va_up (va_up (fun _ => none) (Int32.toNatClampNeg (0 : Int32)) (some (ad 9 99))) (Int32.toNatClampNeg (1 : Int32)) (some (ad 10 99))) (Int32.toNatClampNeg (2 : Int32)) (some (ad 11 99))) (Int32.toNatClampNeg (3 : Int32)) (some (ad 12 99)))))))), (ad 0 8, .inl (q 0, 5, .inl (v 8))), (ad 0 9, .inl (q 0, 36, .inl (v 9)))]

noncomputable def m_J7_fill_53178_K5 (z5 : Int32 × (Nat → Int32)) : Option ((Nat → Int32)) :=
  some z5.2
noncomputable def m_J7_fill_53178_L5 (n1 : Nat) (x2 : Int32) (z5 : Int32 × (Nat → Int32)) : Option ((Int32 × (Nat → Int32)) ⊕ (Int32 × (Nat → Int32))) :=
  (if (Int32.ofNat n1) ≤ z5.1 then some (.inr (z5.1, z5.2)) else ck (inB z5.1 n1) (lett (upd z5.2 ((z5.1).toNatClampNeg) x2) (fun v8_ => some (.inl ((z5.1 + (1 : Int32)), v8_)))))
noncomputable def m_J7_fill_53178 (n1 : Nat) (f1 : Nat → Int32) (x2 : Int32) : Option ((Nat → Int32)) :=
  (lpC (m_J7_fill_53178_L5 n1 x2) ((0 : Int32), f1)).bind (m_J7_fill_53178_K5)
set_option maxHeartbeats 4000000 in
set_option maxRecDepth 100000 in
theorem c_J7_fill_53178 (l : Launch) (D : va_G) (q : Nat → ClassId) (sz : Nat) (r1 : Nat) (n1 : Nat) (f1 : Nat → Int32) (x2 : Int32) (res : (Nat → Int32)) (hm : m_J7_fill_53178 n1 f1 x2 = some res) : Met l yJ7_fill_53178 (mw yJ7_fill_53178 cJ7_fill_53178 4 none) ({ frames := 0, cells := 0, slots := 0, locals := 0 } : Room) (pcW D q ([(r1, .inl (q 0, n1, .inl f1))]) sz [.ref r1, .int x2]) (va_Qv (fun w => w = res) (bW D q ([(r1, .inl (q 0, n1, .inl f1))]) sz (fun (uu : (Nat → Int32)) => [(r1, .inl (q 0, n1, .inl uu))])) (va_A ([(r1, .inl (q 0, n1, .inl f1))]) sz)) 0 0 (va_A ([(r1, .inl (q 0, n1, .inl f1))]) sz) := by
  refine Met.ofW (cc := cJ7_fill_53178) (maxL := 4) (ret := none) (by decide) rfl ?_
  intro p e s m args below meth c s₁ B hml hv
  obtain ⟨rfl, hsz, hP0, hK, hD0⟩ := hv
  have hx := B.exec
  have hb := B.bytes
  have hr := B.returns
  have hW := mw_ws (atoms_spec (ws := mw yJ7_fill_53178 cJ7_fill_53178 4 none) B.pre)
  have hown : s.vm.findClass RJ7 = some m.cls := findClass_of_methodNamed B.named
  have hlocks := B.notSynchronized
  have X : Cx p s m [.ref r1, .int x2].toArray c cJ7_fill_53178 4 RJ7 D q := ⟨hx, hb, hml, hown, hW, hK⟩
  subst hsz
  replace hD0 := hD0.self (sz := s.heap.size)
  have hS0 : va_S (va_A ([(r1, .inl (q 0, n1, .inl f1))]) s.heap.size) s.heap s.heap [] := va_S.rf
  have hl0 := lv_entry ([.ref r1, .int x2]) (n := 4) (Nat.le_of_ble_eq_true rfl)
  rw [lg_entry_eq]
  generalize (lg_sl ([.ref r1, .int x2]) ++ List.replicate (4 - (lg_sl ([.ref r1, .int x2])).length) Slot.unset).toArray = ls0 at hl0 ⊢
  have hl0 : lv_has ls0 4 [(0, .ref r1), (1, .int x2)] := hl0
  unfold m_J7_fill_53178 at hm
  refine lv_iconst (v := (0 : Int32)) hx hb dJ7_fill_53178_0 (by decide) ?_
  refine lv_istore_n (lv' := [(2, .int (0 : Int32)), (0, .ref r1), (1, .int x2)]) hx hb dJ7_fill_53178_1 rfl hl0 (by decide) rfl (fun ls1 hl1 => ?_)
  clear hl0
  refine lv_aload_n hx hb dJ7_fill_53178_2 rfl (lv_at hl1 1 rfl) ?_
  refine va_alen (v := (Int32.ofNat n1)) hx hb hK hP0 0 0 rfl rfl rfl dJ7_fill_53178_3 ?_
  refine lv_istore_n (lv' := [(3, .int (Int32.ofNat n1)), (2, .int (0 : Int32)), (0, .ref r1), (1, .int x2)]) hx hb dJ7_fill_53178_4 rfl hl1 (by decide) rfl (fun ls2 hl2 => ?_)
  clear hl1
  obtain ⟨r5, hr5, hm⟩ := bn hm
  obtain ⟨n5, hn5⟩ := lpC_ex hr5
  have hE5 : ∀ z5 : Int32 × (Nat → Int32), m_J7_fill_53178_K5 z5 = some res → ∀ (H : Heap) (locs : List Loc), va_P D cls ([(r1, .inl (q 0, n1, .inl z5.2))]) H → va_D (va_A ([(r1, .inl (q 0, n1, .inl f1))]) s.heap.size) ([(r1, .inl (q 0, n1, .inl z5.2))]) → va_S (va_A ([(r1, .inl (q 0, n1, .inl f1))]) s.heap.size) s.heap H locs → ∀ ls : Array Slot, lv_has ls 4 [] → W p l e ((headSpec (mw yJ7_fill_53178 cJ7_fill_53178 4 none) ({ frames := 0, cells := 0, slots := 0, locals := 0 } : Room)).room) s m [.ref r1, .int x2].toArray below meth c H locs 0 0 (MQ below (va_Qv (fun w => w = res) (bW D q ([(r1, .inl (q 0, n1, .inl f1))]) s.heap.size (fun (uu : (Nat → Int32)) => [(r1, .inl (q 0, n1, .inl uu))])) (va_A ([(r1, .inl (q 0, n1, .inl f1))]) s.heap.size)) [.ref r1, .int x2].toArray s 0 0 (va_A ([(r1, .inl (q 0, n1, .inl f1))]) s.heap.size)) (F0 m 20 ls []) := by
    intro z5 hm H6 locs6 hP6 hD6 hS6 ls5 hl5
    unfold m_J7_fill_53178_K5 at hm
    exact eWv (Wf := fun (uu : (Nat → Int32)) => [(r1, .inl (q 0, n1, .inl uu))]) (u := z5.2) X hr hlocks hP6 hD6 hS6 hm dJ7_fill_53178_20
  have hL5 : ∀ (n : Nat) (z5 : Int32 × (Nat → Int32)) (ρ5 : Int32 × (Nat → Int32)), lpO (m_J7_fill_53178_L5 n1 x2) n z5 = some ρ5 → (m_J7_fill_53178_K5) ρ5 = some res → ∀ (H : Heap) (locs : List Loc), va_P D cls ([(r1, .inl (q 0, n1, .inl z5.2))]) H → va_D (va_A ([(r1, .inl (q 0, n1, .inl f1))]) s.heap.size) ([(r1, .inl (q 0, n1, .inl z5.2))]) → va_S (va_A ([(r1, .inl (q 0, n1, .inl f1))]) s.heap.size) s.heap H locs → ∀ ls : Array Slot, lv_has ls 4 [(3, .int (Int32.ofNat n1)), (0, .ref r1), (1, .int x2), (2, .int z5.1)] → W p l e ((headSpec (mw yJ7_fill_53178 cJ7_fill_53178 4 none) ({ frames := 0, cells := 0, slots := 0, locals := 0 } : Room)).room) s m [.ref r1, .int x2].toArray below meth c H locs 0 0 (MQ below (va_Qv (fun w => w = res) (bW D q ([(r1, .inl (q 0, n1, .inl f1))]) s.heap.size (fun (uu : (Nat → Int32)) => [(r1, .inl (q 0, n1, .inl uu))])) (va_A ([(r1, .inl (q 0, n1, .inl f1))]) s.heap.size)) [.ref r1, .int x2].toArray s 0 0 (va_A ([(r1, .inl (q 0, n1, .inl f1))]) s.heap.size)) (F0 m 5 ls []) := by
    intro n
    induction n with
    | zero => intro _ _ h; cases h
    | succ n ih5 =>
      intro z5 ρ5 hz5 hK5 H4 locs4 hP4 hD4 hS4 ls3 hl3
      obtain ⟨t5, hm, hz5⟩ := bn hz5
      unfold m_J7_fill_53178_L5 at hm
      refine lv_iload_n hx hb dJ7_fill_53178_5 rfl (lv_at hl3 3 rfl) ?_
      refine lv_iload_n hx hb dJ7_fill_53178_6 rfl (lv_at hl3 0 rfl) ?_
      refine lv_icmp_ge (tgt := 20) hx hb dJ7_fill_53178_7 (by decide) (fun c7 => ?_) (fun c7 => ?_)
      · replace hm := tp hm c7
        cases hm
        cases hz5
        exact hE5 (z5.1, z5.2) hK5 _ _ hP4 hD4 hS4 _ (lv_sub hl3 [] rfl)
      · replace hm := tn hm c7
        refine lv_aload_n hx hb dJ7_fill_53178_10 rfl (lv_at hl3 1 rfl) ?_
        refine lv_iload_n hx hb dJ7_fill_53178_11 rfl (lv_at hl3 3 rfl) ?_
        refine lv_iload_n hx hb dJ7_fill_53178_12 rfl (lv_at hl3 2 rfl) ?_
        obtain ⟨h7, hm⟩ := ckd hm
        refine va_iast (f := z5.2) hx hb hK hP4 hD4 hS4 0 0 rfl rfl (inB_vp h7) dJ7_fill_53178_13 (fun H8 locs8 hP hD hS8 => ?_)
        obtain ⟨v8_, e8, hm⟩ := ltd hm
        have hP8 : va_P D cls ([(r1, .inl (q 0, n1, .inl v8_))]) H8 := by rw [e8]; exact hP
        have hD8 : va_D (va_A ([(r1, .inl (q 0, n1, .inl f1))]) s.heap.size) ([(r1, .inl (q 0, n1, .inl v8_))]) := by rw [e8]; exact hD
        clear hP hD hP4 hD4 hS4
        refine lv_iinc (v := (z5.1 + (1 : Int32))) (lv' := [(2, .int (z5.1 + (1 : Int32))), (3, .int (Int32.ofNat n1)), (0, .ref r1), (1, .int x2)]) hx hb dJ7_fill_53178_14 hl3 (k := 3) rfl rfl (by decide) rfl (fun ls9 hl9 => ?_)
        clear hl3
        refine lv_goto (tgt := 5) hx hb dJ7_fill_53178_17 (by decide) ?_
        cases hm
        exact ih5 ((z5.1 + (1 : Int32)), v8_) ρ5 hz5 hK5 _ _ hP8 hD8 hS8 _ (lv_sub hl9 [1, 2, 3, 0] rfl)
  exact hL5 n5 ((0 : Int32), f1) r5 hn5 hm _ _ hP0 hD0 hS0 _ (lv_sub hl2 [0, 2, 3, 1] rfl)
noncomputable def m_X3_clear (v : SV) : Option (SV) :=
  lett (up2 v 0 0 (4 : Int32)) (fun v1_ => lett (up2 v1_ 0 1 (0 : Int32)) (fun v2_ => lett (up2 v2_ 0 2 (0 : Int32)) (fun v3_ => lett (up2 v3_ 0 3 (0 : Int32)) (fun v4_ => lett (up2 v4_ 0 4 (0 : Int32)) (fun v5_ => lett (up2 v5_ 0 5 (-4 : Int32)) (fun v6_ => (m_J7_fill_53178 6 (v6_ 6) (1 : Int32)).bind (fun y36 => lett (upr v6_ 6 y36) (fun v7_ => (m_J7_fill_53178 6 (v7_ 7) (0 : Int32)).bind (fun y44 => lett (upr v7_ 7 y44) (fun v8_ => some v8_))))))))))
set_option maxHeartbeats 4000000 in
set_option maxRecDepth 100000 in
theorem c_X3_clear (l : Launch) (D : va_G) (q : Nat → ClassId) (sz : Nat) (a : Nat → Nat) (v : SV) (res : SV) (hm : m_X3_clear v = some res) : Met l yX3_clear (mw yX3_clear cX3_clear 1 none) ({ frames := 1, cells := 0, slots := 0, locals := 23 } : Room) (pcW D q (wX3 q a v) sz [.ref (a 99)]) (va_Qv (fun w => w = res) (bW D q (wX3 q a v) sz (fun (uu : SV) => wX3 q a uu)) (va_A (wX3 q a v) sz)) 0 0 (va_A (wX3 q a v) sz) := by
  refine Met.ofW (cc := cX3_clear) (maxL := 1) (ret := none) (by decide) rfl ?_
  intro p e s m args below meth c s₁ B hml hv
  obtain ⟨rfl, hsz, hP0, hK, hD0⟩ := hv
  have hx := B.exec
  have hb := B.bytes
  have hr := B.returns
  have hW := mw_ws (atoms_spec (ws := mw yX3_clear cX3_clear 1 none) B.pre)
  have hown : s.vm.findClass RX3 = some m.cls := findClass_of_methodNamed B.named
  have hlocks := B.notSynchronized
  have X : Cx p s m [.ref (a 99)].toArray c cX3_clear 1 RX3 D q := ⟨hx, hb, hml, hown, hW, hK⟩
  subst hsz
  replace hD0 := hD0.self (sz := s.heap.size)
  have hS0 : va_S (va_A (wX3 q a v) s.heap.size) s.heap s.heap [] := va_S.rf
  have hl0 := lv_entry ([.ref (a 99)]) (n := 1) (Nat.le_of_ble_eq_true rfl)
  rw [lg_entry_eq]
  generalize (lg_sl ([.ref (a 99)]) ++ List.replicate (1 - (lg_sl ([.ref (a 99)])).length) Slot.unset).toArray = ls0 at hl0 ⊢
  have hl0 : lv_has ls0 1 [(0, .ref (a 99))] := hl0
  unfold m_X3_clear at hm
  refine lv_aload_n hx hb dX3_clear_0 rfl (lv_at hl0 0 rfl) ?_
  refine lv_iconst (v := (4 : Int32)) hx hb dX3_clear_1 (by decide) ?_
  refine va_put (D := D) (ci := 3) (v := .int (4 : Int32)) (ty := .int) (C := RX3) (T := TX3) (N := 17) hx hb hW iX3 tyX3 tyX3_ok nmX3 hown hK hP0 hD0 hS0 0 rfl rfl 0 (by decide) (hW _ k_82) (fun _ h => h) rfl (by decide +kernel) rfl rfl (Nat.le_of_ble_eq_true rfl) dX3_clear_2 (fun H1 locs1 hP hD hS1 => ?_)
  obtain ⟨v1_, e1, hm⟩ := ltd hm
  have hP1 : va_P D cls (wX3 q a v1_) H1 := by rw [e1]; exact hP
  have hD1 : va_D (va_A (wX3 q a v) s.heap.size) (wX3 q a v1_) := by rw [e1]; exact hD
  clear hP hD hP0 hD0 hS0
  refine lv_aload_n hx hb dX3_clear_5 rfl (lv_at hl0 0 rfl) ?_
  refine lv_iconst (v := (0 : Int32)) hx hb dX3_clear_6 (by decide) ?_
  refine va_put (D := D) (ci := 3) (v := .int (0 : Int32)) (ty := .int) (C := RX3) (T := TX3) (N := 17) hx hb hW iX3 tyX3 tyX3_ok nmX3 hown hK hP1 hD1 hS1 0 rfl rfl 1 (by decide) (hW _ k_86) (fun _ h => h) rfl (by decide +kernel) rfl rfl (Nat.le_of_ble_eq_true rfl) dX3_clear_7 (fun H2 locs2 hP hD hS2 => ?_)
  obtain ⟨v2_, e2, hm⟩ := ltd hm
  have hP2 : va_P D cls (wX3 q a v2_) H2 := by rw [e2]; exact hP
  have hD2 : va_D (va_A (wX3 q a v) s.heap.size) (wX3 q a v2_) := by rw [e2]; exact hD
  clear hP hD hP1 hD1 hS1
  refine lv_aload_n hx hb dX3_clear_10 rfl (lv_at hl0 0 rfl) ?_
  refine lv_iconst (v := (0 : Int32)) hx hb dX3_clear_11 (by decide) ?_
  refine va_put (D := D) (ci := 3) (v := .int (0 : Int32)) (ty := .int) (C := RX3) (T := TX3) (N := 17) hx hb hW iX3 tyX3 tyX3_ok nmX3 hown hK hP2 hD2 hS2 0 rfl rfl 2 (by decide) (hW _ k_90) (fun _ h => h) rfl (by decide +kernel) rfl rfl (Nat.le_of_ble_eq_true rfl) dX3_clear_12 (fun H3 locs3 hP hD hS3 => ?_)
  obtain ⟨v3_, e3, hm⟩ := ltd hm
  have hP3 : va_P D cls (wX3 q a v3_) H3 := by rw [e3]; exact hP
  have hD3 : va_D (va_A (wX3 q a v) s.heap.size) (wX3 q a v3_) := by rw [e3]; exact hD
  clear hP hD hP2 hD2 hS2
  refine lv_aload_n hx hb dX3_clear_15 rfl (lv_at hl0 0 rfl) ?_
  refine lv_iconst (v := (0 : Int32)) hx hb dX3_clear_16 (by decide) ?_
  refine va_put (D := D) (ci := 3) (v := .int (0 : Int32)) (ty := .int) (C := RX3) (T := TX3) (N := 17) hx hb hW iX3 tyX3 tyX3_ok nmX3 hown hK hP3 hD3 hS3 0 rfl rfl 3 (by decide) (hW _ k_94) (fun _ h => h) rfl (by decide +kernel) rfl rfl (Nat.le_of_ble_eq_true rfl) dX3_clear_17 (fun H4 locs4 hP hD hS4 => ?_)
  obtain ⟨v4_, e4, hm⟩ := ltd hm
  have hP4 : va_P D cls (wX3 q a v4_) H4 := by rw [e4]; exact hP
  have hD4 : va_D (va_A (wX3 q a v) s.heap.size) (wX3 q a v4_) := by rw [e4]; exact hD
  clear hP hD hP3 hD3 hS3
  refine lv_aload_n hx hb dX3_clear_20 rfl (lv_at hl0 0 rfl) ?_
  refine lv_iconst (v := (0 : Int32)) hx hb dX3_clear_21 (by decide) ?_
  refine va_put (D := D) (ci := 3) (v := .int (0 : Int32)) (ty := .int) (C := RX3) (T := TX3) (N := 17) hx hb hW iX3 tyX3 tyX3_ok nmX3 hown hK hP4 hD4 hS4 0 rfl rfl 4 (by decide) (hW _ k_97) (fun _ h => h) rfl (by decide +kernel) rfl rfl (Nat.le_of_ble_eq_true rfl) dX3_clear_22 (fun H5 locs5 hP hD hS5 => ?_)
  obtain ⟨v5_, e5, hm⟩ := ltd hm
  have hP5 : va_P D cls (wX3 q a v5_) H5 := by rw [e5]; exact hP
  have hD5 : va_D (va_A (wX3 q a v) s.heap.size) (wX3 q a v5_) := by rw [e5]; exact hD
  clear hP hD hP4 hD4 hS4
  refine lv_aload_n hx hb dX3_clear_25 rfl (lv_at hl0 0 rfl) ?_
  refine lv_bipush (v := (-4 : Int32)) hx hb dX3_clear_26 (by decide) ?_
  refine va_put (D := D) (ci := 3) (v := .int (-4 : Int32)) (ty := .int) (C := RX3) (T := TX3) (N := 17) hx hb hW iX3 tyX3 tyX3_ok nmX3 hown hK hP5 hD5 hS5 0 rfl rfl 5 (by decide) (hW _ k_99) (fun _ h => h) rfl (by decide +kernel) rfl rfl (Nat.le_of_ble_eq_true rfl) dX3_clear_28 (fun H6 locs6 hP hD hS6 => ?_)
  obtain ⟨v6_, e6, hm⟩ := ltd hm
  have hP6 : va_P D cls (wX3 q a v6_) H6 := by rw [e6]; exact hP
  have hD6 : va_D (va_A (wX3 q a v) s.heap.size) (wX3 q a v6_) := by rw [e6]; exact hD
  clear hP hD hP5 hD5 hS5
  refine lv_aload_n hx hb dX3_clear_31 rfl (lv_at hl0 0 rfl) ?_
  refine va_get (D := D) (ci := 3) (v := .ref (a 6)) (C := RX3) (T := TX3) (N := 17) hx hb hW iX3 hown hK hP6 0 rfl rfl 6 (by decide) (hW _ k_101) (fun _ h => h) rfl dX3_clear_32 ?_
  refine lv_iconst (v := (1 : Int32)) hx hb dX3_clear_35 (by decide) ?_
  obtain ⟨y36, hy36, hm⟩ := bn hm
  refine cSWv (As := [.ref (a 6), .int (1 : Int32)]) (rest := []) (Wn := fun (uu : (Nat → Int32)) => wX3 q a (upr v6_ 6 uu)) X hP6 hD6 hS6 (fun _ h => Or.inr h) hl0.1 (c_J7_fill_53178 l D q H6.size (a 6) 6 (v6_ 6) (1 : Int32) y36 hy36) [1] [0, 2, 3, 4, 5, 6, 7, 8, 9, 10, 11] [0, 11, 1, 2, 3, 4, 5, 6, 7, 8, 9, 10] rfl (Wr := [0, 2, 3, 4, 5, 6, 7, 8, 9, 10, 11].filterMap (fun i => (wX3 q a v6_)[i]?)) rfl (by decide) (by decide) (by decide) (by decide) (fun _ => rfl) k_79 mJ7_fill_53178 ⟨rfl, rfl⟩ ⟨Nat.le_of_ble_eq_true rfl, Nat.le_of_ble_eq_true rfl⟩ rfl rfl (Nat.le_of_ble_eq_true rfl) dX3_clear_36 ⟨Nat.zero_le _, Nat.zero_le _⟩ (fun H7 locs7 hP hD hS7 => ?_)
  obtain ⟨v7_, e7, hm⟩ := ltd hm
  have hP7 : va_P D cls (wX3 q a v7_) H7 := by rw [e7]; exact hP
  have hD7 : va_D (va_A (wX3 q a v) s.heap.size) (wX3 q a v7_) := by rw [e7]; exact hD
  clear hP hD hP6 hD6 hS6
  refine lv_aload_n hx hb dX3_clear_39 rfl (lv_at hl0 0 rfl) ?_
  refine va_get (D := D) (ci := 3) (v := .ref (a 7)) (C := RX3) (T := TX3) (N := 17) hx hb hW iX3 hown hK hP7 0 rfl rfl 7 (by decide) (hW _ k_105) (fun _ h => h) rfl dX3_clear_40 ?_
  refine lv_iconst (v := (0 : Int32)) hx hb dX3_clear_43 (by decide) ?_
  obtain ⟨y44, hy44, hm⟩ := bn hm
  refine cSWv (As := [.ref (a 7), .int (0 : Int32)]) (rest := []) (Wn := fun (uu : (Nat → Int32)) => wX3 q a (upr v7_ 7 uu)) X hP7 hD7 hS7 (fun _ h => Or.inr h) hl0.1 (c_J7_fill_53178 l D q H7.size (a 7) 6 (v7_ 7) (0 : Int32) y44 hy44) [2] [0, 1, 3, 4, 5, 6, 7, 8, 9, 10, 11] [0, 1, 11, 2, 3, 4, 5, 6, 7, 8, 9, 10] rfl (Wr := [0, 1, 3, 4, 5, 6, 7, 8, 9, 10, 11].filterMap (fun i => (wX3 q a v7_)[i]?)) rfl (by decide) (by decide) (by decide) (by decide) (fun _ => rfl) k_79 mJ7_fill_53178 ⟨rfl, rfl⟩ ⟨Nat.le_of_ble_eq_true rfl, Nat.le_of_ble_eq_true rfl⟩ rfl rfl (Nat.le_of_ble_eq_true rfl) dX3_clear_44 ⟨Nat.zero_le _, Nat.zero_le _⟩ (fun H8 locs8 hP hD hS8 => ?_)
  obtain ⟨v8_, e8, hm⟩ := ltd hm
  have hP8 : va_P D cls (wX3 q a v8_) H8 := by rw [e8]; exact hP
  have hD8 : va_D (va_A (wX3 q a v) s.heap.size) (wX3 q a v8_) := by rw [e8]; exact hD
  clear hP hD hP7 hD7 hS7
  exact eWv (Wf := fun (uu : SV) => wX3 q a uu) (u := v8_) X hr hlocks hP8 hD8 hS8 hm dX3_clear_47
noncomputable def m_X3_cover_J40 (x1 : Int32) (x2 : Int32) (z40 : SV) : Option (SV) :=
  ck (inB x1 6) (ck (inB ((x1 * (4 : Int32)) + (z40 7 ((x1).toNatClampNeg))) 24) (lett (up2 z40 8 ((((x1 * (4 : Int32)) + (z40 7 ((x1).toNatClampNeg)))).toNatClampNeg) x2) (fun v7_ => ck (inB x1 6) (ck (inB x1 6) (lett (up2 v7_ 7 ((x1).toNatClampNeg) ((v7_ 7 ((x1).toNatClampNeg)) + (1 : Int32))) (fun v10_ => some v10_))))))
noncomputable def m_X3_cover (v : SV) (x1 : Int32) (x2 : Int32) : Option (SV) :=
  ck (inB x1 6) ((if (v 7 ((x1).toNatClampNeg)) = (4 : Int32) then ck (cpB ((x1 * (4 : Int32)) + (1 : Int32)) (x1 * (4 : Int32)) (3 : Int32) 24 24) (lett (upr v 8 (va_cpy (v 8) (v 8) ((x1 * (4 : Int32)) + (1 : Int32)).toNatClampNeg (x1 * (4 : Int32)).toNatClampNeg (3 : Int32).toNatClampNeg)) (fun v12_ => ck (inB x1 6) (ck (inB x1 6) (lett (up2 v12_ 7 ((x1).toNatClampNeg) ((v12_ 7 ((x1).toNatClampNeg)) - (1 : Int32))) (fun v15_ => m_X3_cover_J40 x1 x2 v15_))))) else m_X3_cover_J40 x1 x2 v))
set_option maxHeartbeats 4000000 in
set_option maxRecDepth 100000 in
theorem c_X3_cover (l : Launch) (D : va_G) (q : Nat → ClassId) (sz : Nat) (a : Nat → Nat) (v : SV) (x1 : Int32) (x2 : Int32) (res : SV) (hm : m_X3_cover v x1 x2 = some res) : Met l yX3_cover (mw yX3_cover cX3_cover 4 none) ({ frames := 1, cells := 0, slots := 0, locals := 60 } : Room) (pcW D q (wX3 q a v) sz [.ref (a 99), .int x1, .int x2]) (va_Qv (fun w => w = res) (bW D q (wX3 q a v) sz (fun (uu : SV) => wX3 q a uu)) (va_A (wX3 q a v) sz)) 0 0 (va_A (wX3 q a v) sz) := by
  refine Met.ofW (cc := cX3_cover) (maxL := 4) (ret := none) (by decide) rfl ?_
  intro p e s m args below meth c s₁ B hml hv
  obtain ⟨rfl, hsz, hP0, hK, hD0⟩ := hv
  have hx := B.exec
  have hb := B.bytes
  have hr := B.returns
  have hW := mw_ws (atoms_spec (ws := mw yX3_cover cX3_cover 4 none) B.pre)
  have hown : s.vm.findClass RX3 = some m.cls := findClass_of_methodNamed B.named
  have hlocks := B.notSynchronized
  have X : Cx p s m [.ref (a 99), .int x1, .int x2].toArray c cX3_cover 4 RX3 D q := ⟨hx, hb, hml, hown, hW, hK⟩
  subst hsz
  replace hD0 := hD0.self (sz := s.heap.size)
  have hS0 : va_S (va_A (wX3 q a v) s.heap.size) s.heap s.heap [] := va_S.rf
  have hl0 := lv_entry ([.ref (a 99), .int x1, .int x2]) (n := 4) (Nat.le_of_ble_eq_true rfl)
  rw [lg_entry_eq]
  generalize (lg_sl ([.ref (a 99), .int x1, .int x2]) ++ List.replicate (4 - (lg_sl ([.ref (a 99), .int x1, .int x2])).length) Slot.unset).toArray = ls0 at hl0 ⊢
  have hl0 : lv_has ls0 4 [(0, .ref (a 99)), (1, .int x1), (2, .int x2)] := hl0
  unfold m_X3_cover at hm
  refine lv_iload_n hx hb dX3_cover_0 rfl (lv_at hl0 1 rfl) ?_
  refine lv_iconst (v := (4 : Int32)) hx hb dX3_cover_1 (by decide) ?_
  refine lv_imul hx hb dX3_cover_2 ?_
  refine lv_istore_n (lv' := [(3, .int (x1 * (4 : Int32))), (0, .ref (a 99)), (1, .int x1), (2, .int x2)]) hx hb dX3_cover_3 rfl hl0 (by decide) rfl (fun ls1 hl1 => ?_)
  clear hl0
  refine lv_aload_n hx hb dX3_cover_4 rfl (lv_at hl1 1 rfl) ?_
  refine va_get (D := D) (ci := 3) (v := .ref (a 7)) (C := RX3) (T := TX3) (N := 17) hx hb hW iX3 hown hK hP0 0 rfl rfl 7 (by decide) (hW _ k_105) (fun _ h => h) rfl dX3_cover_5 ?_
  refine lv_iload_n hx hb dX3_cover_8 rfl (lv_at hl1 2 rfl) ?_
  obtain ⟨h2, hm⟩ := ckd hm
  refine va_iald (f := (v 7)) hx hb hK hP0 2 0 rfl rfl (inB_vp h2) dX3_cover_9 ?_
  refine lv_iconst (v := (4 : Int32)) hx hb dX3_cover_10 (by decide) ?_
  have hJ40 : ∀ z40 : SV, m_X3_cover_J40 x1 x2 z40 = some res → ∀ (H : Heap) (locs : List Loc), va_P D cls (wX3 q a z40) H → va_D (va_A (wX3 q a v) s.heap.size) (wX3 q a z40) → va_S (va_A (wX3 q a v) s.heap.size) s.heap H locs → ∀ ls : Array Slot, lv_has ls 4 [(3, .int (x1 * (4 : Int32))), (0, .ref (a 99)), (1, .int x1), (2, .int x2)] → W p l e ((headSpec (mw yX3_cover cX3_cover 4 none) ({ frames := 1, cells := 0, slots := 0, locals := 60 } : Room)).room) s m [.ref (a 99), .int x1, .int x2].toArray below meth c H locs 0 0 (MQ below (va_Qv (fun w => w = res) (bW D q (wX3 q a v) s.heap.size (fun (uu : SV) => wX3 q a uu)) (va_A (wX3 q a v) s.heap.size)) [.ref (a 99), .int x1, .int x2].toArray s 0 0 (va_A (wX3 q a v) s.heap.size)) (F0 m 40 ls []) := by
    intro z40 hm H4 locs4 hP4 hD4 hS4 ls3 hl3
    unfold m_X3_cover_J40 at hm
    refine lv_aload_n hx hb dX3_cover_40 rfl (lv_at hl3 1 rfl) ?_
    refine va_get (D := D) (ci := 3) (v := .ref (a 8)) (C := RX3) (T := TX3) (N := 17) hx hb hW iX3 hown hK hP4 0 rfl rfl 8 (by decide) (hW _ k_108) (fun _ h => h) rfl dX3_cover_41 ?_
    refine lv_iload_n hx hb dX3_cover_44 rfl (lv_at hl3 0 rfl) ?_
    refine lv_aload_n hx hb dX3_cover_45 rfl (lv_at hl3 1 rfl) ?_
    refine va_get (D := D) (ci := 3) (v := .ref (a 7)) (C := RX3) (T := TX3) (N := 17) hx hb hW iX3 hown hK hP4 0 rfl rfl 7 (by decide) (hW _ k_105) (fun _ h => h) rfl dX3_cover_46 ?_
    refine lv_iload_n hx hb dX3_cover_49 rfl (lv_at hl3 2 rfl) ?_
    obtain ⟨h5, hm⟩ := ckd hm
    refine va_iald (f := (z40 7)) hx hb hK hP4 2 0 rfl rfl (inB_vp h5) dX3_cover_50 ?_
    refine lv_iadd hx hb dX3_cover_51 ?_
    refine lv_iload_n hx hb dX3_cover_52 rfl (lv_at hl3 3 rfl) ?_
    obtain ⟨h6, hm⟩ := ckd hm
    refine va_iast (f := (z40 8)) hx hb hK hP4 hD4 hS4 3 0 rfl rfl (inB_vp h6) dX3_cover_53 (fun H7 locs7 hP hD hS7 => ?_)
    obtain ⟨v7_, e7, hm⟩ := ltd hm
    have hP7 : va_P D cls (wX3 q a v7_) H7 := by rw [e7]; exact hP
    have hD7 : va_D (va_A (wX3 q a v) s.heap.size) (wX3 q a v7_) := by rw [e7]; exact hD
    clear hP hD hP4 hD4 hS4
    refine lv_aload_n hx hb dX3_cover_54 rfl (lv_at hl3 1 rfl) ?_
    refine va_get (D := D) (ci := 3) (v := .ref (a 7)) (C := RX3) (T := TX3) (N := 17) hx hb hW iX3 hown hK hP7 0 rfl rfl 7 (by decide) (hW _ k_105) (fun _ h => h) rfl dX3_cover_55 ?_
    refine lv_iload_n hx hb dX3_cover_58 rfl (lv_at hl3 2 rfl) ?_
    refine lv_dup2_11 hx hb dX3_cover_59 rfl rfl ?_
    obtain ⟨h8, hm⟩ := ckd hm
    refine va_iald (f := (v7_ 7)) hx hb hK hP7 2 0 rfl rfl (inB_vp h8) dX3_cover_60 ?_
    refine lv_iconst (v := (1 : Int32)) hx hb dX3_cover_61 (by decide) ?_
    refine lv_iadd hx hb dX3_cover_62 ?_
    obtain ⟨h9, hm⟩ := ckd hm
    refine va_iast (f := (v7_ 7)) hx hb hK hP7 hD7 hS7 2 0 rfl rfl (inB_vp h9) dX3_cover_63 (fun H10 locs10 hP hD hS10 => ?_)
    obtain ⟨v10_, e10, hm⟩ := ltd hm
    have hP10 : va_P D cls (wX3 q a v10_) H10 := by rw [e10]; exact hP
    have hD10 : va_D (va_A (wX3 q a v) s.heap.size) (wX3 q a v10_) := by rw [e10]; exact hD
    clear hP hD hP7 hD7 hS7
    exact eWv (Wf := fun (uu : SV) => wX3 q a uu) (u := v10_) X hr hlocks hP10 hD10 hS10 hm dX3_cover_64
  refine lv_icmp_ne (tgt := 40) hx hb dX3_cover_11 (by decide) (fun c11 => ?_) (fun c11 => ?_)
  · replace hm := tn hm c11
    exact hJ40 v hm _ _ hP0 hD0 hS0 _ (lv_sub hl1 [0, 1, 2, 3] rfl)
  · replace hm := tp hm c11
    refine lv_aload_n hx hb dX3_cover_14 rfl (lv_at hl1 1 rfl) ?_
    refine va_get (D := D) (ci := 3) (v := .ref (a 8)) (C := RX3) (T := TX3) (N := 17) hx hb hW iX3 hown hK hP0 0 rfl rfl 8 (by decide) (hW _ k_108) (fun _ h => h) rfl dX3_cover_15 ?_
    refine lv_iload_n hx hb dX3_cover_18 rfl (lv_at hl1 0 rfl) ?_
    refine lv_iconst (v := (1 : Int32)) hx hb dX3_cover_19 (by decide) ?_
    refine lv_iadd hx hb dX3_cover_20 ?_
    refine lv_aload_n hx hb dX3_cover_21 rfl (lv_at hl1 1 rfl) ?_
    refine va_get (D := D) (ci := 3) (v := .ref (a 8)) (C := RX3) (T := TX3) (N := 17) hx hb hW iX3 hown hK hP0 0 rfl rfl 8 (by decide) (hW _ k_108) (fun _ h => h) rfl dX3_cover_22 ?_
    refine lv_iload_n hx hb dX3_cover_25 rfl (lv_at hl1 0 rfl) ?_
    refine lv_iconst (v := (3 : Int32)) hx hb dX3_cover_26 (by decide) ?_
    obtain ⟨h11, hm⟩ := ckd hm
    refine va_copyi (sp := ((x1 * (4 : Int32)) + (1 : Int32))) (dp := (x1 * (4 : Int32))) (n := (3 : Int32)) (f := (v 8)) (g := (v 8)) hx hb (by rw [X.2.2.1]; exact hl1.1.symm) hown (hW _ k_501) (hW _ k_503) (hW _ k_502) (hW _ k_53) hK hP0 hD0 hS0 3 3 0 0 rfl rfl rfl rfl rfl (cp_ok h11).1 (cp_ok h11).2.1 (cp_ok h11).2.2.1 (cp_ok h11).2.2.2.1 (cp_ok h11).2.2.2.2 (fun _ _ => rfl) (by exact Nat.le_of_ble_eq_true rfl) (by exact Nat.le_of_ble_eq_true rfl) dX3_cover_27 (fun H12 locs12 hP hD hS12 => ?_)
    obtain ⟨v12_, e12, hm⟩ := ltd hm
    have hP12 : va_P D cls (wX3 q a v12_) H12 := by rw [e12]; exact hP
    have hD12 : va_D (va_A (wX3 q a v) s.heap.size) (wX3 q a v12_) := by rw [e12]; exact hD
    clear hP hD hP0 hD0 hS0
    refine lv_aload_n hx hb dX3_cover_30 rfl (lv_at hl1 1 rfl) ?_
    refine va_get (D := D) (ci := 3) (v := .ref (a 7)) (C := RX3) (T := TX3) (N := 17) hx hb hW iX3 hown hK hP12 0 rfl rfl 7 (by decide) (hW _ k_105) (fun _ h => h) rfl dX3_cover_31 ?_
    refine lv_iload_n hx hb dX3_cover_34 rfl (lv_at hl1 2 rfl) ?_
    refine lv_dup2_11 hx hb dX3_cover_35 rfl rfl ?_
    obtain ⟨h13, hm⟩ := ckd hm
    refine va_iald (f := (v12_ 7)) hx hb hK hP12 2 0 rfl rfl (inB_vp h13) dX3_cover_36 ?_
    refine lv_iconst (v := (1 : Int32)) hx hb dX3_cover_37 (by decide) ?_
    refine lv_isub hx hb dX3_cover_38 ?_
    obtain ⟨h14, hm⟩ := ckd hm
    refine va_iast (f := (v12_ 7)) hx hb hK hP12 hD12 hS12 2 0 rfl rfl (inB_vp h14) dX3_cover_39 (fun H15 locs15 hP hD hS15 => ?_)
    obtain ⟨v15_, e15, hm⟩ := ltd hm
    have hP15 : va_P D cls (wX3 q a v15_) H15 := by rw [e15]; exact hP
    have hD15 : va_D (va_A (wX3 q a v) s.heap.size) (wX3 q a v15_) := by rw [e15]; exact hD
    clear hP hD hP12 hD12 hS12
    exact hJ40 v15_ hm _ _ hP15 hD15 hS15 _ (lv_sub hl1 [0, 1, 2, 3] rfl)
noncomputable def m_X1_add (v : SV) (x1 : Int32) (x2 : Int32) (x3 : Int32) : Option (Int32 × SV) :=
  (if (v 0 0) < (6 : Int32) then ck (inB (v 0 0) 6) (lett (up2 v 1 (((v 0 0)).toNatClampNeg) x1) (fun v2_ => ck (inB (v2_ 0 0) 6) (lett (up2 v2_ 2 (((v2_ 0 0)).toNatClampNeg) x2) (fun v4_ => ck (inB (v4_ 0 0) 6) (lett (up2 v4_ 3 (((v4_ 0 0)).toNatClampNeg) (vp_nar .boolean x3)) (fun v6_ => lett (up2 v6_ 0 0 ((v6_ 0 0) + (1 : Int32))) (fun v7_ => some ((1 : Int32), v7_)))))))) else some ((0 : Int32), v))
set_option maxHeartbeats 4000000 in
set_option maxRecDepth 100000 in
theorem c_X1_add (l : Launch) (D : va_G) (q : Nat → ClassId) (sz : Nat) (a : Nat → Nat) (v : SV) (x1 : Int32) (x2 : Int32) (x3 : Int32) (res : Int32 × SV) (hm : m_X1_add v x1 x2 x3 = some res) : Met l yX1_add (mw yX1_add cX1_add 4 (some .boolean)) ({ frames := 0, cells := 0, slots := 0, locals := 0 } : Room) (pcW D q (wX1 q a v) sz [.ref (a 99), .int x1, .int x2, .int x3]) (va_Qi (fun r w => r = res.1 ∧ w = res.2) (bW D q (wX1 q a v) sz (fun (uu : SV) => wX1 q a uu)) (va_A (wX1 q a v) sz)) 0 0 (va_A (wX1 q a v) sz) := by
  refine Met.ofW (cc := cX1_add) (maxL := 4) (ret := (some .boolean)) (by decide) rfl ?_
  intro p e s m args below meth c s₁ B hml hv
  obtain ⟨rfl, hsz, hP0, hK, hD0⟩ := hv
  have hx := B.exec
  have hb := B.bytes
  have hr := B.returns
  have hW := mw_ws (atoms_spec (ws := mw yX1_add cX1_add 4 (some .boolean)) B.pre)
  have hown : s.vm.findClass RX1 = some m.cls := findClass_of_methodNamed B.named
  have hlocks := B.notSynchronized
  have X : Cx p s m [.ref (a 99), .int x1, .int x2, .int x3].toArray c cX1_add 4 RX1 D q := ⟨hx, hb, hml, hown, hW, hK⟩
  subst hsz
  replace hD0 := hD0.self (sz := s.heap.size)
  have hS0 : va_S (va_A (wX1 q a v) s.heap.size) s.heap s.heap [] := va_S.rf
  have hl0 := lv_entry ([.ref (a 99), .int x1, .int x2, .int x3]) (n := 4) (Nat.le_of_ble_eq_true rfl)
  rw [lg_entry_eq]
  generalize (lg_sl ([.ref (a 99), .int x1, .int x2, .int x3]) ++ List.replicate (4 - (lg_sl ([.ref (a 99), .int x1, .int x2, .int x3])).length) Slot.unset).toArray = ls0 at hl0 ⊢
  have hl0 : lv_has ls0 4 [(0, .ref (a 99)), (1, .int x1), (2, .int x2), (3, .int x3)] := hl0
  unfold m_X1_add at hm
  refine lv_aload_n hx hb dX1_add_0 rfl (lv_at hl0 0 rfl) ?_
  refine va_get (D := D) (ci := 1) (v := .int (v 0 0)) (C := RX1) (T := TX1) (N := 4) hx hb hW iX1 hown hK hP0 0 rfl rfl 0 (by decide) (hW _ k_226) (fun _ h => h) rfl dX1_add_1 ?_
  refine lv_bipush (v := (6 : Int32)) hx hb dX1_add_4 (by decide) ?_
  refine lv_icmp_lt (tgt := 11) hx hb dX1_add_6 (by decide) (fun c6 => ?_) (fun c6 => ?_)
  · replace hm := tp hm c6
    refine lv_aload_n hx hb dX1_add_11 rfl (lv_at hl0 0 rfl) ?_
    refine va_get (D := D) (ci := 1) (v := .ref (a 1)) (C := RX1) (T := TX1) (N := 4) hx hb hW iX1 hown hK hP0 0 rfl rfl 1 (by decide) (hW _ k_229) (fun _ h => h) rfl dX1_add_12 ?_
    refine lv_aload_n hx hb dX1_add_15 rfl (lv_at hl0 0 rfl) ?_
    refine va_get (D := D) (ci := 1) (v := .int (v 0 0)) (C := RX1) (T := TX1) (N := 4) hx hb hW iX1 hown hK hP0 0 rfl rfl 0 (by decide) (hW _ k_226) (fun _ h => h) rfl dX1_add_16 ?_
    refine lv_iload_n hx hb dX1_add_19 rfl (lv_at hl0 1 rfl) ?_
    obtain ⟨h1, hm⟩ := ckd hm
    refine va_iast (f := (v 1)) hx hb hK hP0 hD0 hS0 1 0 rfl rfl (inB_vp h1) dX1_add_20 (fun H2 locs2 hP hD hS2 => ?_)
    obtain ⟨v2_, e2, hm⟩ := ltd hm
    have hP2 : va_P D cls (wX1 q a v2_) H2 := by rw [e2]; exact hP
    have hD2 : va_D (va_A (wX1 q a v) s.heap.size) (wX1 q a v2_) := by rw [e2]; exact hD
    clear hP hD hP0 hD0 hS0
    refine lv_aload_n hx hb dX1_add_21 rfl (lv_at hl0 0 rfl) ?_
    refine va_get (D := D) (ci := 1) (v := .ref (a 2)) (C := RX1) (T := TX1) (N := 4) hx hb hW iX1 hown hK hP2 0 rfl rfl 2 (by decide) (hW _ k_231) (fun _ h => h) rfl dX1_add_22 ?_
    refine lv_aload_n hx hb dX1_add_25 rfl (lv_at hl0 0 rfl) ?_
    refine va_get (D := D) (ci := 1) (v := .int (v2_ 0 0)) (C := RX1) (T := TX1) (N := 4) hx hb hW iX1 hown hK hP2 0 rfl rfl 0 (by decide) (hW _ k_226) (fun _ h => h) rfl dX1_add_26 ?_
    refine lv_iload_n hx hb dX1_add_29 rfl (lv_at hl0 2 rfl) ?_
    obtain ⟨h3, hm⟩ := ckd hm
    refine va_iast (f := (v2_ 2)) hx hb hK hP2 hD2 hS2 2 0 rfl rfl (inB_vp h3) dX1_add_30 (fun H4 locs4 hP hD hS4 => ?_)
    obtain ⟨v4_, e4, hm⟩ := ltd hm
    have hP4 : va_P D cls (wX1 q a v4_) H4 := by rw [e4]; exact hP
    have hD4 : va_D (va_A (wX1 q a v) s.heap.size) (wX1 q a v4_) := by rw [e4]; exact hD
    clear hP hD hP2 hD2 hS2
    refine lv_aload_n hx hb dX1_add_31 rfl (lv_at hl0 0 rfl) ?_
    refine va_get (D := D) (ci := 1) (v := .ref (a 3)) (C := RX1) (T := TX1) (N := 4) hx hb hW iX1 hown hK hP4 0 rfl rfl 3 (by decide) (hW _ k_233) (fun _ h => h) rfl dX1_add_32 ?_
    refine lv_aload_n hx hb dX1_add_35 rfl (lv_at hl0 0 rfl) ?_
    refine va_get (D := D) (ci := 1) (v := .int (v4_ 0 0)) (C := RX1) (T := TX1) (N := 4) hx hb hW iX1 hown hK hP4 0 rfl rfl 0 (by decide) (hW _ k_226) (fun _ h => h) rfl dX1_add_36 ?_
    refine lv_iload_n hx hb dX1_add_39 rfl (lv_at hl0 3 rfl) ?_
    obtain ⟨h5, hm⟩ := ckd hm
    refine va_zast (f := (v4_ 3)) hx hb hK hP4 hD4 hS4 3 2 rfl rfl (inB_vp h5) dX1_add_40 (fun H6 locs6 hP hD hS6 => ?_)
    obtain ⟨v6_, e6, hm⟩ := ltd hm
    have hP6 : va_P D cls (wX1 q a v6_) H6 := by rw [e6]; exact hP
    have hD6 : va_D (va_A (wX1 q a v) s.heap.size) (wX1 q a v6_) := by rw [e6]; exact hD
    clear hP hD hP4 hD4 hS4
    refine lv_aload_n hx hb dX1_add_41 rfl (lv_at hl0 0 rfl) ?_
    refine lv_dup hx hb dX1_add_42 rfl ?_
    refine va_get (D := D) (ci := 1) (v := .int (v6_ 0 0)) (C := RX1) (T := TX1) (N := 4) hx hb hW iX1 hown hK hP6 0 rfl rfl 0 (by decide) (hW _ k_226) (fun _ h => h) rfl dX1_add_43 ?_
    refine lv_iconst (v := (1 : Int32)) hx hb dX1_add_46 (by decide) ?_
    refine lv_iadd hx hb dX1_add_47 ?_
    refine va_put (D := D) (ci := 1) (v := .int ((v6_ 0 0) + (1 : Int32))) (ty := .int) (C := RX1) (T := TX1) (N := 4) hx hb hW iX1 tyX1 tyX1_ok nmX1 hown hK hP6 hD6 hS6 0 rfl rfl 0 (by decide) (hW _ k_226) (fun _ h => h) rfl (by decide +kernel) rfl rfl (Nat.le_of_ble_eq_true rfl) dX1_add_48 (fun H7 locs7 hP hD hS7 => ?_)
    obtain ⟨v7_, e7, hm⟩ := ltd hm
    have hP7 : va_P D cls (wX1 q a v7_) H7 := by rw [e7]; exact hP
    have hD7 : va_D (va_A (wX1 q a v) s.heap.size) (wX1 q a v7_) := by rw [e7]; exact hD
    clear hP hD hP6 hD6 hS6
    refine lv_iconst (v := (1 : Int32)) hx hb dX1_add_51 (by decide) ?_
    exact eWz (Wf := fun (uu : SV) => wX1 q a uu) (u := v7_) X hr hlocks rfl hP7 hD7 hS7 hm dX1_add_52
  · replace hm := tn hm c6
    refine lv_iconst (v := (0 : Int32)) hx hb dX1_add_9 (by decide) ?_
    exact eWz (Wf := fun (uu : SV) => wX1 q a uu) (u := v) X hr hlocks rfl hP0 hD0 hS0 hm dX1_add_10
noncomputable def m_X2_renew (v : SV) (x1 : Int32) (x2 : Int32) : Option (SV) :=
  lett (up2 v 0 0 x1) (fun v1_ => lett (up2 v1_ 0 1 x2) (fun v2_ => (m_J7_fill_53178 40 (v2_ 2) (0 : Int32)).bind (fun y15 => lett (upr v2_ 2 y15) (fun v3_ => some v3_))))
set_option maxHeartbeats 4000000 in
set_option maxRecDepth 100000 in
theorem c_X2_renew (l : Launch) (D : va_G) (q : Nat → ClassId) (sz : Nat) (a : Nat → Nat) (v : SV) (x1 : Int32) (x2 : Int32) (res : SV) (hm : m_X2_renew v x1 x2 = some res) : Met l yX2_renew (mw yX2_renew cX2_renew 3 none) ({ frames := 1, cells := 0, slots := 0, locals := 23 } : Room) (pcW D q (wX2 q a v) sz [.ref (a 99), .int x1, .int x2]) (va_Qv (fun w => w = res) (bW D q (wX2 q a v) sz (fun (uu : SV) => wX2 q a uu)) (va_A (wX2 q a v) sz)) 0 0 (va_A (wX2 q a v) sz) := by
  refine Met.ofW (cc := cX2_renew) (maxL := 3) (ret := none) (by decide) rfl ?_
  intro p e s m args below meth c s₁ B hml hv
  obtain ⟨rfl, hsz, hP0, hK, hD0⟩ := hv
  have hx := B.exec
  have hb := B.bytes
  have hr := B.returns
  have hW := mw_ws (atoms_spec (ws := mw yX2_renew cX2_renew 3 none) B.pre)
  have hown : s.vm.findClass RX2 = some m.cls := findClass_of_methodNamed B.named
  have hlocks := B.notSynchronized
  have X : Cx p s m [.ref (a 99), .int x1, .int x2].toArray c cX2_renew 3 RX2 D q := ⟨hx, hb, hml, hown, hW, hK⟩
  subst hsz
  replace hD0 := hD0.self (sz := s.heap.size)
  have hS0 : va_S (va_A (wX2 q a v) s.heap.size) s.heap s.heap [] := va_S.rf
  have hl0 := lv_entry ([.ref (a 99), .int x1, .int x2]) (n := 3) (Nat.le_of_ble_eq_true rfl)
  rw [lg_entry_eq]
  generalize (lg_sl ([.ref (a 99), .int x1, .int x2]) ++ List.replicate (3 - (lg_sl ([.ref (a 99), .int x1, .int x2])).length) Slot.unset).toArray = ls0 at hl0 ⊢
  have hl0 : lv_has ls0 3 [(0, .ref (a 99)), (1, .int x1), (2, .int x2)] := hl0
  unfold m_X2_renew at hm
  refine lv_aload_n hx hb dX2_renew_0 rfl (lv_at hl0 0 rfl) ?_
  refine lv_iload_n hx hb dX2_renew_1 rfl (lv_at hl0 1 rfl) ?_
  refine va_put (D := D) (ci := 2) (v := .int x1) (ty := .int) (C := RX2) (T := TX2) (N := 3) hx hb hW iX2 tyX2 tyX2_ok nmX2 hown hK hP0 hD0 hS0 0 rfl rfl 0 (by decide) (hW _ k_296) (fun _ h => h) rfl (by decide +kernel) rfl rfl (Nat.le_of_ble_eq_true rfl) dX2_renew_2 (fun H1 locs1 hP hD hS1 => ?_)
  obtain ⟨v1_, e1, hm⟩ := ltd hm
  have hP1 : va_P D cls (wX2 q a v1_) H1 := by rw [e1]; exact hP
  have hD1 : va_D (va_A (wX2 q a v) s.heap.size) (wX2 q a v1_) := by rw [e1]; exact hD
  clear hP hD hP0 hD0 hS0
  refine lv_aload_n hx hb dX2_renew_5 rfl (lv_at hl0 0 rfl) ?_
  refine lv_iload_n hx hb dX2_renew_6 rfl (lv_at hl0 2 rfl) ?_
  refine va_put (D := D) (ci := 2) (v := .int x2) (ty := .int) (C := RX2) (T := TX2) (N := 3) hx hb hW iX2 tyX2 tyX2_ok nmX2 hown hK hP1 hD1 hS1 0 rfl rfl 1 (by decide) (hW _ k_297) (fun _ h => h) rfl (by decide +kernel) rfl rfl (Nat.le_of_ble_eq_true rfl) dX2_renew_7 (fun H2 locs2 hP hD hS2 => ?_)
  obtain ⟨v2_, e2, hm⟩ := ltd hm
  have hP2 : va_P D cls (wX2 q a v2_) H2 := by rw [e2]; exact hP
  have hD2 : va_D (va_A (wX2 q a v) s.heap.size) (wX2 q a v2_) := by rw [e2]; exact hD
  clear hP hD hP1 hD1 hS1
  refine lv_aload_n hx hb dX2_renew_10 rfl (lv_at hl0 0 rfl) ?_
  refine va_get (D := D) (ci := 2) (v := .ref (a 2)) (C := RX2) (T := TX2) (N := 3) hx hb hW iX2 hown hK hP2 0 rfl rfl 2 (by decide) (hW _ k_299) (fun _ h => h) rfl dX2_renew_11 ?_
  refine lv_iconst (v := (0 : Int32)) hx hb dX2_renew_14 (by decide) ?_
  obtain ⟨y15, hy15, hm⟩ := bn hm
  refine cSWv (As := [.ref (a 2), .int (0 : Int32)]) (rest := []) (Wn := fun (uu : (Nat → Int32)) => wX2 q a (upr v2_ 2 uu)) X hP2 hD2 hS2 (fun _ h => Or.inr h) hl0.1 (c_J7_fill_53178 l D q H2.size (a 2) 40 (v2_ 2) (0 : Int32) y15 hy15) [1] [0] [0, 1] rfl (Wr := [0].filterMap (fun i => (wX2 q a v2_)[i]?)) rfl (by decide) (by decide) (by decide) (by decide) (fun _ => rfl) k_823 mJ7_fill_53178 ⟨rfl, rfl⟩ ⟨Nat.le_of_ble_eq_true rfl, Nat.le_of_ble_eq_true rfl⟩ rfl rfl (Nat.le_of_ble_eq_true rfl) dX2_renew_15 ⟨Nat.zero_le _, Nat.zero_le _⟩ (fun H3 locs3 hP hD hS3 => ?_)
  obtain ⟨v3_, e3, hm⟩ := ltd hm
  have hP3 : va_P D cls (wX2 q a v3_) H3 := by rw [e3]; exact hP
  have hD3 : va_D (va_A (wX2 q a v) s.heap.size) (wX2 q a v3_) := by rw [e3]; exact hD
  clear hP hD hP2 hD2 hS2
  exact eWv (Wf := fun (uu : SV) => wX2 q a uu) (u := v3_) X hr hlocks hP3 hD3 hS3 hm dX2_renew_18
noncomputable def m_X2_isThere (v : SV) : Option (Int32) :=
  (if (v 0 1) = (-1 : Int32) then some (0 : Int32) else some (1 : Int32))
set_option maxHeartbeats 4000000 in
set_option maxRecDepth 100000 in
theorem c_X2_isThere (l : Launch) (D : va_G) (q : Nat → ClassId) (a : Nat → Nat) (v : SV) (res : Int32) (hm : m_X2_isThere v = some res) : Met l yX2_isThere (mw yX2_isThere cX2_isThere 1 (some .boolean)) ({ frames := 0, cells := 0, slots := 0, locals := 0 } : Room) (pcR D q (wX2 q a v) [.ref (a 99)]) (vp_Si (fun x => x = res)) 0 0 (fun _ => False) := by
  refine Met.ofW (cc := cX2_isThere) (maxL := 1) (ret := (some .boolean)) (by decide) rfl ?_
  intro p e s m args below meth c s₁ B hml hv
  obtain ⟨rfl, hP0, hK⟩ := hv
  have hx := B.exec
  have hb := B.bytes
  have hr := B.returns
  have hW := mw_ws (atoms_spec (ws := mw yX2_isThere cX2_isThere 1 (some .boolean)) B.pre)
  have hown : s.vm.findClass RX2 = some m.cls := findClass_of_methodNamed B.named
  have hlocks := B.notSynchronized
  have X : Cx p s m [.ref (a 99)].toArray c cX2_isThere 1 RX2 D q := ⟨hx, hb, hml, hown, hW, hK⟩
  have hl0 := lv_entry ([.ref (a 99)]) (n := 1) (Nat.le_of_ble_eq_true rfl)
  rw [lg_entry_eq]
  generalize (lg_sl ([.ref (a 99)]) ++ List.replicate (1 - (lg_sl ([.ref (a 99)])).length) Slot.unset).toArray = ls0 at hl0 ⊢
  have hl0 : lv_has ls0 1 [(0, .ref (a 99))] := hl0
  unfold m_X2_isThere at hm
  refine lv_aload_n hx hb dX2_isThere_0 rfl (lv_at hl0 0 rfl) ?_
  refine va_get (D := D) (ci := 2) (v := .int (v 0 1)) (C := RX2) (T := TX2) (N := 3) hx hb hW iX2 hown hK hP0 0 rfl rfl 1 (by decide) (hW _ k_297) (fun _ h => h) rfl dX2_isThere_1 ?_
  refine lv_iconst (v := (-1 : Int32)) hx hb dX2_isThere_4 (by decide) ?_
  refine lv_icmp_eq (tgt := 12) hx hb dX2_isThere_5 (by decide) (fun c5 => ?_) (fun c5 => ?_)
  · replace hm := tp hm c5
    refine lv_iconst (v := (0 : Int32)) hx hb dX2_isThere_12 (by decide) ?_
    exact eRz  X hr hlocks rfl hm dX2_isThere_13
  · replace hm := tn hm c5
    refine lv_iconst (v := (1 : Int32)) hx hb dX2_isThere_8 (by decide) ?_
    refine lv_goto (tgt := 13) hx hb dX2_isThere_9 (by decide) ?_
    exact eRz  X hr hlocks rfl hm dX2_isThere_13
noncomputable def m_X2_hasCell (v : SV) (x1 : Int32) : Option (Int32) :=
  (if x1 < 0 then some (0 : Int32) else (if (v 0 1) ≤ x1 then some (0 : Int32) else some (1 : Int32)))
set_option maxHeartbeats 4000000 in
set_option maxRecDepth 100000 in
theorem c_X2_hasCell (l : Launch) (D : va_G) (q : Nat → ClassId) (a : Nat → Nat) (v : SV) (x1 : Int32) (res : Int32) (hm : m_X2_hasCell v x1 = some res) : Met l yX2_hasCell (mw yX2_hasCell cX2_hasCell 2 (some .boolean)) ({ frames := 0, cells := 0, slots := 0, locals := 0 } : Room) (pcR D q (wX2 q a v) [.ref (a 99), .int x1]) (vp_Si (fun x => x = res)) 0 0 (fun _ => False) := by
  refine Met.ofW (cc := cX2_hasCell) (maxL := 2) (ret := (some .boolean)) (by decide) rfl ?_
  intro p e s m args below meth c s₁ B hml hv
  obtain ⟨rfl, hP0, hK⟩ := hv
  have hx := B.exec
  have hb := B.bytes
  have hr := B.returns
  have hW := mw_ws (atoms_spec (ws := mw yX2_hasCell cX2_hasCell 2 (some .boolean)) B.pre)
  have hown : s.vm.findClass RX2 = some m.cls := findClass_of_methodNamed B.named
  have hlocks := B.notSynchronized
  have X : Cx p s m [.ref (a 99), .int x1].toArray c cX2_hasCell 2 RX2 D q := ⟨hx, hb, hml, hown, hW, hK⟩
  have hl0 := lv_entry ([.ref (a 99), .int x1]) (n := 2) (Nat.le_of_ble_eq_true rfl)
  rw [lg_entry_eq]
  generalize (lg_sl ([.ref (a 99), .int x1]) ++ List.replicate (2 - (lg_sl ([.ref (a 99), .int x1])).length) Slot.unset).toArray = ls0 at hl0 ⊢
  have hl0 : lv_has ls0 2 [(0, .ref (a 99)), (1, .int x1)] := hl0
  unfold m_X2_hasCell at hm
  refine lv_iload_n hx hb dX2_hasCell_0 rfl (lv_at hl0 1 rfl) ?_
  refine lv_if_lt (tgt := 16) hx hb dX2_hasCell_1 (by decide) (fun c1 => ?_) (fun c1 => ?_)
  · replace hm := tp hm c1
    refine lv_iconst (v := (0 : Int32)) hx hb dX2_hasCell_16 (by decide) ?_
    exact eRz  X hr hlocks rfl hm dX2_hasCell_17
  · replace hm := tn hm c1
    refine lv_iload_n hx hb dX2_hasCell_4 rfl (lv_at hl0 1 rfl) ?_
    refine lv_aload_n hx hb dX2_hasCell_5 rfl (lv_at hl0 0 rfl) ?_
    refine va_get (D := D) (ci := 2) (v := .int (v 0 1)) (C := RX2) (T := TX2) (N := 3) hx hb hW iX2 hown hK hP0 0 rfl rfl 1 (by decide) (hW _ k_297) (fun _ h => h) rfl dX2_hasCell_6 ?_
    refine lv_icmp_ge (tgt := 16) hx hb dX2_hasCell_9 (by decide) (fun c9 => ?_) (fun c9 => ?_)
    · replace hm := tp hm c9
      refine lv_iconst (v := (0 : Int32)) hx hb dX2_hasCell_16 (by decide) ?_
      exact eRz  X hr hlocks rfl hm dX2_hasCell_17
    · replace hm := tn hm c9
      refine lv_iconst (v := (1 : Int32)) hx hb dX2_hasCell_12 (by decide) ?_
      refine lv_goto (tgt := 17) hx hb dX2_hasCell_13 (by decide) ?_
      exact eRz  X hr hlocks rfl hm dX2_hasCell_17
noncomputable def m_X2_write (v : SV) (x1 : Int32) (x2 : Int32) : Option (SV) :=
  (if (v 0 0) = 0 then ck (inB x1 40) (lett (up2 v 2 ((x1).toNatClampNeg) (x2.toInt8.toInt32)) (fun v2_ => some v2_)) else (if (v 0 0) = (1 : Int32) then ck (inB x1 40) (lett (up2 v 2 ((x1).toNatClampNeg) (x2.toInt16.toInt32)) (fun v4_ => some v4_)) else ck (inB x1 40) (lett (up2 v 2 ((x1).toNatClampNeg) x2) (fun v6_ => some v6_))))
set_option maxHeartbeats 4000000 in
set_option maxRecDepth 100000 in
theorem c_X2_write (l : Launch) (D : va_G) (q : Nat → ClassId) (sz : Nat) (a : Nat → Nat) (v : SV) (x1 : Int32) (x2 : Int32) (res : SV) (hm : m_X2_write v x1 x2 = some res) : Met l yX2_write (mw yX2_write cX2_write 3 none) ({ frames := 0, cells := 0, slots := 0, locals := 0 } : Room) (pcW D q (wX2 q a v) sz [.ref (a 99), .int x1, .int x2]) (va_Qv (fun w => w = res) (bW D q (wX2 q a v) sz (fun (uu : SV) => wX2 q a uu)) (va_A (wX2 q a v) sz)) 0 0 (va_A (wX2 q a v) sz) := by
  refine Met.ofW (cc := cX2_write) (maxL := 3) (ret := none) (by decide) rfl ?_
  intro p e s m args below meth c s₁ B hml hv
  obtain ⟨rfl, hsz, hP0, hK, hD0⟩ := hv
  have hx := B.exec
  have hb := B.bytes
  have hr := B.returns
  have hW := mw_ws (atoms_spec (ws := mw yX2_write cX2_write 3 none) B.pre)
  have hown : s.vm.findClass RX2 = some m.cls := findClass_of_methodNamed B.named
  have hlocks := B.notSynchronized
  have X : Cx p s m [.ref (a 99), .int x1, .int x2].toArray c cX2_write 3 RX2 D q := ⟨hx, hb, hml, hown, hW, hK⟩
  subst hsz
  replace hD0 := hD0.self (sz := s.heap.size)
  have hS0 : va_S (va_A (wX2 q a v) s.heap.size) s.heap s.heap [] := va_S.rf
  have hl0 := lv_entry ([.ref (a 99), .int x1, .int x2]) (n := 3) (Nat.le_of_ble_eq_true rfl)
  rw [lg_entry_eq]
  generalize (lg_sl ([.ref (a 99), .int x1, .int x2]) ++ List.replicate (3 - (lg_sl ([.ref (a 99), .int x1, .int x2])).length) Slot.unset).toArray = ls0 at hl0 ⊢
  have hl0 : lv_has ls0 3 [(0, .ref (a 99)), (1, .int x1), (2, .int x2)] := hl0
  unfold m_X2_write at hm
  refine lv_aload_n hx hb dX2_write_0 rfl (lv_at hl0 0 rfl) ?_
  refine va_get (D := D) (ci := 2) (v := .int (v 0 0)) (C := RX2) (T := TX2) (N := 3) hx hb hW iX2 hown hK hP0 0 rfl rfl 0 (by decide) (hW _ k_296) (fun _ h => h) rfl dX2_write_1 ?_
  refine lv_if_ne (tgt := 18) hx hb dX2_write_4 (by decide) (fun c4 => ?_) (fun c4 => ?_)
  · replace hm := tn hm c4
    refine lv_aload_n hx hb dX2_write_18 rfl (lv_at hl0 0 rfl) ?_
    refine va_get (D := D) (ci := 2) (v := .int (v 0 0)) (C := RX2) (T := TX2) (N := 3) hx hb hW iX2 hown hK hP0 0 rfl rfl 0 (by decide) (hW _ k_296) (fun _ h => h) rfl dX2_write_19 ?_
    refine lv_iconst (v := (1 : Int32)) hx hb dX2_write_22 (by decide) ?_
    refine lv_icmp_ne (tgt := 37) hx hb dX2_write_23 (by decide) (fun c23 => ?_) (fun c23 => ?_)
    · replace hm := tn hm c23
      refine lv_aload_n hx hb dX2_write_37 rfl (lv_at hl0 0 rfl) ?_
      refine va_get (D := D) (ci := 2) (v := .ref (a 2)) (C := RX2) (T := TX2) (N := 3) hx hb hW iX2 hown hK hP0 0 rfl rfl 2 (by decide) (hW _ k_299) (fun _ h => h) rfl dX2_write_38 ?_
      refine lv_iload_n hx hb dX2_write_41 rfl (lv_at hl0 1 rfl) ?_
      refine lv_iload_n hx hb dX2_write_42 rfl (lv_at hl0 2 rfl) ?_
      obtain ⟨h5, hm⟩ := ckd hm
      refine va_iast (f := (v 2)) hx hb hK hP0 hD0 hS0 1 0 rfl rfl (inB_vp h5) dX2_write_43 (fun H6 locs6 hP hD hS6 => ?_)
      obtain ⟨v6_, e6, hm⟩ := ltd hm
      have hP6 : va_P D cls (wX2 q a v6_) H6 := by rw [e6]; exact hP
      have hD6 : va_D (va_A (wX2 q a v) s.heap.size) (wX2 q a v6_) := by rw [e6]; exact hD
      clear hP hD hP0 hD0 hS0
      exact eWv (Wf := fun (uu : SV) => wX2 q a uu) (u := v6_) X hr hlocks hP6 hD6 hS6 hm dX2_write_44
    · replace hm := tp hm c23
      refine lv_aload_n hx hb dX2_write_26 rfl (lv_at hl0 0 rfl) ?_
      refine va_get (D := D) (ci := 2) (v := .ref (a 2)) (C := RX2) (T := TX2) (N := 3) hx hb hW iX2 hown hK hP0 0 rfl rfl 2 (by decide) (hW _ k_299) (fun _ h => h) rfl dX2_write_27 ?_
      refine lv_iload_n hx hb dX2_write_30 rfl (lv_at hl0 1 rfl) ?_
      refine lv_iload_n hx hb dX2_write_31 rfl (lv_at hl0 2 rfl) ?_
      refine lv_i2s hx hb dX2_write_32 rfl ?_
      obtain ⟨h3, hm⟩ := ckd hm
      refine va_iast (f := (v 2)) hx hb hK hP0 hD0 hS0 1 0 rfl rfl (inB_vp h3) dX2_write_33 (fun H4 locs4 hP hD hS4 => ?_)
      obtain ⟨v4_, e4, hm⟩ := ltd hm
      have hP4 : va_P D cls (wX2 q a v4_) H4 := by rw [e4]; exact hP
      have hD4 : va_D (va_A (wX2 q a v) s.heap.size) (wX2 q a v4_) := by rw [e4]; exact hD
      clear hP hD hP0 hD0 hS0
      refine lv_goto (tgt := 44) hx hb dX2_write_34 (by decide) ?_
      exact eWv (Wf := fun (uu : SV) => wX2 q a uu) (u := v4_) X hr hlocks hP4 hD4 hS4 hm dX2_write_44
  · replace hm := tp hm c4
    refine lv_aload_n hx hb dX2_write_7 rfl (lv_at hl0 0 rfl) ?_
    refine va_get (D := D) (ci := 2) (v := .ref (a 2)) (C := RX2) (T := TX2) (N := 3) hx hb hW iX2 hown hK hP0 0 rfl rfl 2 (by decide) (hW _ k_299) (fun _ h => h) rfl dX2_write_8 ?_
    refine lv_iload_n hx hb dX2_write_11 rfl (lv_at hl0 1 rfl) ?_
    refine lv_iload_n hx hb dX2_write_12 rfl (lv_at hl0 2 rfl) ?_
    refine lv_i2b hx hb dX2_write_13 rfl ?_
    obtain ⟨h1, hm⟩ := ckd hm
    refine va_iast (f := (v 2)) hx hb hK hP0 hD0 hS0 1 0 rfl rfl (inB_vp h1) dX2_write_14 (fun H2 locs2 hP hD hS2 => ?_)
    obtain ⟨v2_, e2, hm⟩ := ltd hm
    have hP2 : va_P D cls (wX2 q a v2_) H2 := by rw [e2]; exact hP
    have hD2 : va_D (va_A (wX2 q a v) s.heap.size) (wX2 q a v2_) := by rw [e2]; exact hD
    clear hP hD hP0 hD0 hS0
    refine lv_goto (tgt := 44) hx hb dX2_write_15 (by decide) ?_
    exact eWv (Wf := fun (uu : SV) => wX2 q a uu) (u := v2_) X hr hlocks hP2 hD2 hS2 hm dX2_write_44
noncomputable def m_X2_faultAs (v : SV) (x1 : Int32) : Option (Int32) :=
  (m_X2_isThere v).bind (fun y1 => (if y1 = 0 then some (1 : Int32) else (if x1 = (v 0 0) then some (0 : Int32) else some (3 : Int32))))
set_option maxHeartbeats 4000000 in
set_option maxRecDepth 100000 in
theorem c_X2_faultAs (l : Launch) (D : va_G) (q : Nat → ClassId) (a : Nat → Nat) (v : SV) (x1 : Int32) (res : Int32) (hm : m_X2_faultAs v x1 = some res) : Met l yX2_faultAs (mw yX2_faultAs cX2_faultAs 2 (some .int)) ({ frames := 1, cells := 0, slots := 0, locals := 20 } : Room) (pcR D q (wX2 q a v) [.ref (a 99), .int x1]) (vp_Si (fun x => x = res)) 0 0 (fun _ => False) := by
  refine Met.ofW (cc := cX2_faultAs) (maxL := 2) (ret := (some .int)) (by decide) rfl ?_
  intro p e s m args below meth c s₁ B hml hv
  obtain ⟨rfl, hP0, hK⟩ := hv
  have hx := B.exec
  have hb := B.bytes
  have hr := B.returns
  have hW := mw_ws (atoms_spec (ws := mw yX2_faultAs cX2_faultAs 2 (some .int)) B.pre)
  have hown : s.vm.findClass RX2 = some m.cls := findClass_of_methodNamed B.named
  have hlocks := B.notSynchronized
  have X : Cx p s m [.ref (a 99), .int x1].toArray c cX2_faultAs 2 RX2 D q := ⟨hx, hb, hml, hown, hW, hK⟩
  have hl0 := lv_entry ([.ref (a 99), .int x1]) (n := 2) (Nat.le_of_ble_eq_true rfl)
  rw [lg_entry_eq]
  generalize (lg_sl ([.ref (a 99), .int x1]) ++ List.replicate (2 - (lg_sl ([.ref (a 99), .int x1])).length) Slot.unset).toArray = ls0 at hl0 ⊢
  have hl0 : lv_has ls0 2 [(0, .ref (a 99)), (1, .int x1)] := hl0
  unfold m_X2_faultAs at hm
  refine lv_aload_n hx hb dX2_faultAs_0 rfl (lv_at hl0 0 rfl) ?_
  obtain ⟨y1, hy1, hm⟩ := bn hm
  refine cVRi (As := []) (rest := []) X hP0 hl0.1 (c_X2_isThere l D q a v y1 hy1) [0, 1] rfl 0 rfl rfl rfl k_848 mX2_isThere ⟨rfl, rfl⟩ ⟨Nat.le_of_ble_eq_true rfl, Nat.le_of_ble_eq_true rfl⟩ rfl rfl (Nat.le_of_ble_eq_true rfl) dX2_faultAs_1 ⟨Nat.zero_le _, Nat.zero_le _⟩ ?_
  refine lv_if_ne (tgt := 9) hx hb dX2_faultAs_4 (by decide) (fun c4 => ?_) (fun c4 => ?_)
  · replace hm := tn hm c4
    refine lv_iload_n hx hb dX2_faultAs_9 rfl (lv_at hl0 1 rfl) ?_
    refine lv_aload_n hx hb dX2_faultAs_10 rfl (lv_at hl0 0 rfl) ?_
    refine va_get (D := D) (ci := 2) (v := .int (v 0 0)) (C := RX2) (T := TX2) (N := 3) hx hb hW iX2 hown hK hP0 0 rfl rfl 0 (by decide) (hW _ k_296) (fun _ h => h) rfl dX2_faultAs_11 ?_
    refine lv_icmp_ne (tgt := 21) hx hb dX2_faultAs_14 (by decide) (fun c14 => ?_) (fun c14 => ?_)
    · replace hm := tn hm c14
      refine lv_iconst (v := (3 : Int32)) hx hb dX2_faultAs_21 (by decide) ?_
      exact eRi  X hr hlocks hm dX2_faultAs_22
    · replace hm := tp hm c14
      refine lv_iconst (v := (0 : Int32)) hx hb dX2_faultAs_17 (by decide) ?_
      refine lv_goto (tgt := 22) hx hb dX2_faultAs_18 (by decide) ?_
      exact eRi  X hr hlocks hm dX2_faultAs_22
  · replace hm := tp hm c4
    refine lv_iconst (v := (1 : Int32)) hx hb dX2_faultAs_7 (by decide) ?_
    exact eRi  X hr hlocks hm dX2_faultAs_8
noncomputable def m_X3_copyRow (n1 : Nat) (f1 : Nat → Int32) (n2 : Nat) (f2 : Nat → Int32) : Option ((Nat → Int32)) :=
  ck (cpB (0 : Int32) (0 : Int32) (if (Int32.ofNat n2) < (Int32.ofNat n1) then (Int32.ofNat n2) else (Int32.ofNat n1)) n1 n2) (lett ((va_cpy f1 f2 (0 : Int32).toNatClampNeg (0 : Int32).toNatClampNeg (if (Int32.ofNat n2) < (Int32.ofNat n1) then (Int32.ofNat n2) else (Int32.ofNat n1)).toNatClampNeg)) (fun v2_ => some v2_))
set_option maxHeartbeats 4000000 in
set_option maxRecDepth 100000 in
theorem c_X3_copyRow (l : Launch) (D : va_G) (q : Nat → ClassId) (sz : Nat) (r1 : Nat) (n1 : Nat) (f1 : Nat → Int32) (r2 : Nat) (n2 : Nat) (f2 : Nat → Int32) (res : (Nat → Int32)) (hm : m_X3_copyRow n1 f1 n2 f2 = some res) : Met l yX3_copyRow (mw yX3_copyRow cX3_copyRow 2 none) ({ frames := 1, cells := 0, slots := 0, locals := 60 } : Room) (pcW D q ([(r1, .inl (q 0, n1, .inl f1))] ++ [(r2, .inl (q 0, n2, .inl f2))]) sz [.ref r1, .ref r2]) (va_Qv (fun w => w = res) (bW D q ([(r1, .inl (q 0, n1, .inl f1))] ++ [(r2, .inl (q 0, n2, .inl f2))]) sz (fun (uu : (Nat → Int32)) => [(r1, .inl (q 0, n1, .inl f1))] ++ [(r2, .inl (q 0, n2, .inl uu))])) (va_A ([(r1, .inl (q 0, n1, .inl f1))] ++ [(r2, .inl (q 0, n2, .inl f2))]) sz)) 0 0 (va_A ([(r1, .inl (q 0, n1, .inl f1))] ++ [(r2, .inl (q 0, n2, .inl f2))]) sz) := by
  refine Met.ofW (cc := cX3_copyRow) (maxL := 2) (ret := none) (by decide) rfl ?_
  intro p e s m args below meth c s₁ B hml hv
  obtain ⟨rfl, hsz, hP0, hK, hD0⟩ := hv
  have hx := B.exec
  have hb := B.bytes
  have hr := B.returns
  have hW := mw_ws (atoms_spec (ws := mw yX3_copyRow cX3_copyRow 2 none) B.pre)
  have hown : s.vm.findClass RX3 = some m.cls := findClass_of_methodNamed B.named
  have hlocks := B.notSynchronized
  have X : Cx p s m [.ref r1, .ref r2].toArray c cX3_copyRow 2 RX3 D q := ⟨hx, hb, hml, hown, hW, hK⟩
  subst hsz
  replace hD0 := hD0.self (sz := s.heap.size)
  have hS0 : va_S (va_A ([(r1, .inl (q 0, n1, .inl f1))] ++ [(r2, .inl (q 0, n2, .inl f2))]) s.heap.size) s.heap s.heap [] := va_S.rf
  have hl0 := lv_entry ([.ref r1, .ref r2]) (n := 2) (Nat.le_of_ble_eq_true rfl)
  rw [lg_entry_eq]
  generalize (lg_sl ([.ref r1, .ref r2]) ++ List.replicate (2 - (lg_sl ([.ref r1, .ref r2])).length) Slot.unset).toArray = ls0 at hl0 ⊢
  have hl0 : lv_has ls0 2 [(0, .ref r1), (1, .ref r2)] := hl0
  unfold m_X3_copyRow at hm
  refine lv_aload_n hx hb dX3_copyRow_0 rfl (lv_at hl0 0 rfl) ?_
  refine lv_iconst (v := (0 : Int32)) hx hb dX3_copyRow_1 (by decide) ?_
  refine lv_aload_n hx hb dX3_copyRow_2 rfl (lv_at hl0 1 rfl) ?_
  refine lv_iconst (v := (0 : Int32)) hx hb dX3_copyRow_3 (by decide) ?_
  refine lv_aload_n hx hb dX3_copyRow_4 rfl (lv_at hl0 0 rfl) ?_
  refine va_alen (v := (Int32.ofNat n1)) hx hb hK hP0 0 0 rfl rfl rfl dX3_copyRow_5 ?_
  refine lv_aload_n hx hb dX3_copyRow_6 rfl (lv_at hl0 1 rfl) ?_
  refine va_alen (v := (Int32.ofNat n2)) hx hb hK hP0 1 0 rfl rfl rfl dX3_copyRow_7 ?_
  refine va_mmin hx hb (by rw [X.2.2.1]; exact hl0.1.symm) hown (hW _ k_511) (hW _ k_512) (hW _ k_52) (hW _ k_513) (by exact Nat.le_of_ble_eq_true rfl) (by exact Nat.le_of_ble_eq_true rfl) (Nat.zero_le _) (Nat.zero_le _) dX3_copyRow_8 ?_
  obtain ⟨h1, hm⟩ := ckd hm
  refine va_copyi (sp := (0 : Int32)) (dp := (0 : Int32)) (n := (if (Int32.ofNat n2) < (Int32.ofNat n1) then (Int32.ofNat n2) else (Int32.ofNat n1))) (f := f1) (g := f2) hx hb (by rw [X.2.2.1]; exact hl0.1.symm) hown (hW _ k_501) (hW _ k_503) (hW _ k_502) (hW _ k_53) hK hP0 hD0 hS0 0 1 0 0 rfl rfl rfl rfl rfl (cp_ok h1).1 (cp_ok h1).2.1 (cp_ok h1).2.2.1 (cp_ok h1).2.2.2.1 (cp_ok h1).2.2.2.2 (fun _ _ => rfl) (by exact Nat.le_of_ble_eq_true rfl) (by exact Nat.le_of_ble_eq_true rfl) dX3_copyRow_11 (fun H2 locs2 hP hD hS2 => ?_)
  obtain ⟨v2_, e2, hm⟩ := ltd hm
  have hP2 : va_P D cls ([(r1, .inl (q 0, n1, .inl f1))] ++ [(r2, .inl (q 0, n2, .inl v2_))]) H2 := by rw [e2]; exact hP
  have hD2 : va_D (va_A ([(r1, .inl (q 0, n1, .inl f1))] ++ [(r2, .inl (q 0, n2, .inl f2))]) s.heap.size) ([(r1, .inl (q 0, n1, .inl f1))] ++ [(r2, .inl (q 0, n2, .inl v2_))]) := by rw [e2]; exact hD
  clear hP hD hP0 hD0 hS0
  exact eWv (Wf := fun (uu : (Nat → Int32)) => [(r1, .inl (q 0, n1, .inl f1))] ++ [(r2, .inl (q 0, n2, .inl uu))]) (u := v2_) X hr hlocks hP2 hD2 hS2 hm dX3_copyRow_14
noncomputable def m_X3_becomes (v : SV) (u : SV) : Option (SV) :=
  lett (up2 v 0 0 (u 0 0)) (fun v1_ => lett (up2 v1_ 0 1 (u 0 1)) (fun v2_ => lett (up2 v2_ 0 2 (u 0 2)) (fun v3_ => lett (up2 v3_ 0 3 (u 0 3)) (fun v4_ => lett (up2 v4_ 0 4 (u 0 4)) (fun v5_ => lett (up2 v5_ 0 5 (u 0 5)) (fun v6_ => (m_X3_copyRow 6 (u 6) 6 (v6_ 6)).bind (fun y56 => lett (upr v6_ 6 y56) (fun v7_ => (m_X3_copyRow 6 (u 7) 6 (v7_ 7)).bind (fun y67 => lett (upr v7_ 7 y67) (fun v8_ => (m_X3_copyRow 24 (u 8) 24 (v8_ 8)).bind (fun y78 => lett (upr v8_ 8 y78) (fun v9_ => (m_X3_copyRow 5 (u 9) 5 (v9_ 9)).bind (fun y89 => lett (upr v9_ 9 y89) (fun v10_ => (m_X3_copyRow 5 (u 10) 5 (v10_ 10)).bind (fun y100 => lett (upr v10_ 10 y100) (fun v11_ => (m_X3_copyRow 5 (u 11) 5 (v11_ 11)).bind (fun y111 => lett (upr v11_ 11 y111) (fun v12_ => (m_X3_copyRow 5 (u 12) 5 (v12_ 12)).bind (fun y122 => lett (upr v12_ 12 y122) (fun v13_ => (m_X3_copyRow 5 (u 13) 5 (v13_ 13)).bind (fun y133 => lett (upr v13_ 13 y133) (fun v14_ => (m_X3_copyRow 5 (u 14) 5 (v14_ 14)).bind (fun y144 => lett (upr v14_ 14 y144) (fun v15_ => (m_X3_copyRow 5 (u 15) 5 (v15_ 15)).bind (fun y155 => lett (upr v15_ 15 y155) (fun v16_ => (m_X3_copyRow 4 (u 16) 4 (v16_ 16)).bind (fun y166 => lett (upr v16_ 16 y166) (fun v17_ => some v17_))))))))))))))))))))))))))))
set_option maxHeartbeats 4000000 in
set_option maxRecDepth 100000 in
theorem c_X3_becomes (l : Launch) (D : va_G) (q : Nat → ClassId) (sz : Nat) (a : Nat → Nat) (v : SV) (b : Nat → Nat) (u : SV) (res : SV) (hm : m_X3_becomes v u = some res) : Met l yX3_becomes (mw yX3_becomes cX3_becomes 2 none) ({ frames := 2, cells := 0, slots := 0, locals := 81 } : Room) (pcW D q (wX3 q a v ++ wX3 q b u) sz [.ref (a 99), .ref (b 99)]) (va_Qv (fun w => w = res) (bW D q (wX3 q a v ++ wX3 q b u) sz (fun (uu : SV) => wX3 q a uu ++ wX3 q b u)) (va_A (wX3 q a v ++ wX3 q b u) sz)) 0 0 (va_A (wX3 q a v ++ wX3 q b u) sz) := by
  refine Met.ofW (cc := cX3_becomes) (maxL := 2) (ret := none) (by decide) rfl ?_
  intro p e s m args below meth c s₁ B hml hv
  obtain ⟨rfl, hsz, hP0, hK, hD0⟩ := hv
  have hx := B.exec
  have hb := B.bytes
  have hr := B.returns
  have hW := mw_ws (atoms_spec (ws := mw yX3_becomes cX3_becomes 2 none) B.pre)
  have hown : s.vm.findClass RX3 = some m.cls := findClass_of_methodNamed B.named
  have hlocks := B.notSynchronized
  have X : Cx p s m [.ref (a 99), .ref (b 99)].toArray c cX3_becomes 2 RX3 D q := ⟨hx, hb, hml, hown, hW, hK⟩
  subst hsz
  replace hD0 := hD0.self (sz := s.heap.size)
  have hS0 : va_S (va_A (wX3 q a v ++ wX3 q b u) s.heap.size) s.heap s.heap [] := va_S.rf
  have hl0 := lv_entry ([.ref (a 99), .ref (b 99)]) (n := 2) (Nat.le_of_ble_eq_true rfl)
  rw [lg_entry_eq]
  generalize (lg_sl ([.ref (a 99), .ref (b 99)]) ++ List.replicate (2 - (lg_sl ([.ref (a 99), .ref (b 99)])).length) Slot.unset).toArray = ls0 at hl0 ⊢
  have hl0 : lv_has ls0 2 [(0, .ref (a 99)), (1, .ref (b 99))] := hl0
  unfold m_X3_becomes at hm
  refine lv_aload_n hx hb dX3_becomes_0 rfl (lv_at hl0 0 rfl) ?_
  refine lv_aload_n hx hb dX3_becomes_1 rfl (lv_at hl0 1 rfl) ?_
  refine va_get (D := D) (ci := 3) (v := .int (u 0 0)) (C := RX3) (T := TX3) (N := 17) hx hb hW iX3 hown hK hP0 12 rfl rfl 0 (by decide) (hW _ k_82) (fun _ h => h) rfl dX3_becomes_2 ?_
  refine va_put (D := D) (ci := 3) (v := .int (u 0 0)) (ty := .int) (C := RX3) (T := TX3) (N := 17) hx hb hW iX3 tyX3 tyX3_ok nmX3 hown hK hP0 hD0 hS0 0 rfl rfl 0 (by decide) (hW _ k_82) (fun _ h => h) rfl (by decide +kernel) rfl rfl (Nat.le_of_ble_eq_true rfl) dX3_becomes_5 (fun H1 locs1 hP hD hS1 => ?_)
  obtain ⟨v1_, e1, hm⟩ := ltd hm
  have hP1 : va_P D cls (wX3 q a v1_ ++ wX3 q b u) H1 := by rw [e1]; exact hP
  have hD1 : va_D (va_A (wX3 q a v ++ wX3 q b u) s.heap.size) (wX3 q a v1_ ++ wX3 q b u) := by rw [e1]; exact hD
  clear hP hD hP0 hD0 hS0
  refine lv_aload_n hx hb dX3_becomes_8 rfl (lv_at hl0 0 rfl) ?_
  refine lv_aload_n hx hb dX3_becomes_9 rfl (lv_at hl0 1 rfl) ?_
  refine va_get (D := D) (ci := 3) (v := .int (u 0 1)) (C := RX3) (T := TX3) (N := 17) hx hb hW iX3 hown hK hP1 12 rfl rfl 1 (by decide) (hW _ k_86) (fun _ h => h) rfl dX3_becomes_10 ?_
  refine va_put (D := D) (ci := 3) (v := .int (u 0 1)) (ty := .int) (C := RX3) (T := TX3) (N := 17) hx hb hW iX3 tyX3 tyX3_ok nmX3 hown hK hP1 hD1 hS1 0 rfl rfl 1 (by decide) (hW _ k_86) (fun _ h => h) rfl (by decide +kernel) rfl rfl (Nat.le_of_ble_eq_true rfl) dX3_becomes_13 (fun H2 locs2 hP hD hS2 => ?_)
  obtain ⟨v2_, e2, hm⟩ := ltd hm
  have hP2 : va_P D cls (wX3 q a v2_ ++ wX3 q b u) H2 := by rw [e2]; exact hP
  have hD2 : va_D (va_A (wX3 q a v ++ wX3 q b u) s.heap.size) (wX3 q a v2_ ++ wX3 q b u) := by rw [e2]; exact hD
  clear hP hD hP1 hD1 hS1
  refine lv_aload_n hx hb dX3_becomes_16 rfl (lv_at hl0 0 rfl) ?_
  refine lv_aload_n hx hb dX3_becomes_17 rfl (lv_at hl0 1 rfl) ?_
  refine va_get (D := D) (ci := 3) (v := .int (u 0 2)) (C := RX3) (T := TX3) (N := 17) hx hb hW iX3 hown hK hP2 12 rfl rfl 2 (by decide) (hW _ k_90) (fun _ h => h) rfl dX3_becomes_18 ?_
  refine va_put (D := D) (ci := 3) (v := .int (u 0 2)) (ty := .int) (C := RX3) (T := TX3) (N := 17) hx hb hW iX3 tyX3 tyX3_ok nmX3 hown hK hP2 hD2 hS2 0 rfl rfl 2 (by decide) (hW _ k_90) (fun _ h => h) rfl (by decide +kernel) rfl rfl (Nat.le_of_ble_eq_true rfl) dX3_becomes_21 (fun H3 locs3 hP hD hS3 => ?_)
  obtain ⟨v3_, e3, hm⟩ := ltd hm
  have hP3 : va_P D cls (wX3 q a v3_ ++ wX3 q b u) H3 := by rw [e3]; exact hP
  have hD3 : va_D (va_A (wX3 q a v ++ wX3 q b u) s.heap.size) (wX3 q a v3_ ++ wX3 q b u) := by rw [e3]; exact hD
  clear hP hD hP2 hD2 hS2
  refine lv_aload_n hx hb dX3_becomes_24 rfl (lv_at hl0 0 rfl) ?_
  refine lv_aload_n hx hb dX3_becomes_25 rfl (lv_at hl0 1 rfl) ?_
  refine va_get (D := D) (ci := 3) (v := .int (u 0 3)) (C := RX3) (T := TX3) (N := 17) hx hb hW iX3 hown hK hP3 12 rfl rfl 3 (by decide) (hW _ k_94) (fun _ h => h) rfl dX3_becomes_26 ?_
  refine va_put (D := D) (ci := 3) (v := .int (u 0 3)) (ty := .int) (C := RX3) (T := TX3) (N := 17) hx hb hW iX3 tyX3 tyX3_ok nmX3 hown hK hP3 hD3 hS3 0 rfl rfl 3 (by decide) (hW _ k_94) (fun _ h => h) rfl (by decide +kernel) rfl rfl (Nat.le_of_ble_eq_true rfl) dX3_becomes_29 (fun H4 locs4 hP hD hS4 => ?_)
  obtain ⟨v4_, e4, hm⟩ := ltd hm
  have hP4 : va_P D cls (wX3 q a v4_ ++ wX3 q b u) H4 := by rw [e4]; exact hP
  have hD4 : va_D (va_A (wX3 q a v ++ wX3 q b u) s.heap.size) (wX3 q a v4_ ++ wX3 q b u) := by rw [e4]; exact hD
  clear hP hD hP3 hD3 hS3
  refine lv_aload_n hx hb dX3_becomes_32 rfl (lv_at hl0 0 rfl) ?_
  refine lv_aload_n hx hb dX3_becomes_33 rfl (lv_at hl0 1 rfl) ?_
  refine va_get (D := D) (ci := 3) (v := .int (u 0 4)) (C := RX3) (T := TX3) (N := 17) hx hb hW iX3 hown hK hP4 12 rfl rfl 4 (by decide) (hW _ k_97) (fun _ h => h) rfl dX3_becomes_34 ?_
  refine va_put (D := D) (ci := 3) (v := .int (u 0 4)) (ty := .int) (C := RX3) (T := TX3) (N := 17) hx hb hW iX3 tyX3 tyX3_ok nmX3 hown hK hP4 hD4 hS4 0 rfl rfl 4 (by decide) (hW _ k_97) (fun _ h => h) rfl (by decide +kernel) rfl rfl (Nat.le_of_ble_eq_true rfl) dX3_becomes_37 (fun H5 locs5 hP hD hS5 => ?_)
  obtain ⟨v5_, e5, hm⟩ := ltd hm
  have hP5 : va_P D cls (wX3 q a v5_ ++ wX3 q b u) H5 := by rw [e5]; exact hP
  have hD5 : va_D (va_A (wX3 q a v ++ wX3 q b u) s.heap.size) (wX3 q a v5_ ++ wX3 q b u) := by rw [e5]; exact hD
  clear hP hD hP4 hD4 hS4
  refine lv_aload_n hx hb dX3_becomes_40 rfl (lv_at hl0 0 rfl) ?_
  refine lv_aload_n hx hb dX3_becomes_41 rfl (lv_at hl0 1 rfl) ?_
  refine va_get (D := D) (ci := 3) (v := .int (u 0 5)) (C := RX3) (T := TX3) (N := 17) hx hb hW iX3 hown hK hP5 12 rfl rfl 5 (by decide) (hW _ k_99) (fun _ h => h) rfl dX3_becomes_42 ?_
  refine va_put (D := D) (ci := 3) (v := .int (u 0 5)) (ty := .int) (C := RX3) (T := TX3) (N := 17) hx hb hW iX3 tyX3 tyX3_ok nmX3 hown hK hP5 hD5 hS5 0 rfl rfl 5 (by decide) (hW _ k_99) (fun _ h => h) rfl (by decide +kernel) rfl rfl (Nat.le_of_ble_eq_true rfl) dX3_becomes_45 (fun H6 locs6 hP hD hS6 => ?_)
  obtain ⟨v6_, e6, hm⟩ := ltd hm
  have hP6 : va_P D cls (wX3 q a v6_ ++ wX3 q b u) H6 := by rw [e6]; exact hP
  have hD6 : va_D (va_A (wX3 q a v ++ wX3 q b u) s.heap.size) (wX3 q a v6_ ++ wX3 q b u) := by rw [e6]; exact hD
  clear hP hD hP5 hD5 hS5
  refine lv_aload_n hx hb dX3_becomes_48 rfl (lv_at hl0 1 rfl) ?_
  refine va_get (D := D) (ci := 3) (v := .ref (b 6)) (C := RX3) (T := TX3) (N := 17) hx hb hW iX3 hown hK hP6 12 rfl rfl 6 (by decide) (hW _ k_101) (fun _ h => h) rfl dX3_becomes_49 ?_
  refine lv_aload_n hx hb dX3_becomes_52 rfl (lv_at hl0 0 rfl) ?_
  refine va_get (D := D) (ci := 3) (v := .ref (a 6)) (C := RX3) (T := TX3) (N := 17) hx hb hW iX3 hown hK hP6 0 rfl rfl 6 (by decide) (hW _ k_101) (fun _ h => h) rfl dX3_becomes_53 ?_
  obtain ⟨y56, hy56, hm⟩ := bn hm
  refine cSWv (As := [.ref (b 6), .ref (a 6)]) (rest := []) (Wn := fun (uu : (Nat → Int32)) => wX3 q a (upr v6_ 6 uu) ++ wX3 q b u) X hP6 hD6 hS6 (fun _ h => Or.inr h) hl0.1 (c_X3_copyRow l D q H6.size (b 6) 6 (u 6) (a 6) 6 (v6_ 6) y56 hy56) [13, 1] [0, 2, 3, 4, 5, 6, 7, 8, 9, 10, 11, 12, 14, 15, 16, 17, 18, 19, 20, 21, 22, 23] [0, 23, 1, 2, 3, 4, 5, 6, 7, 8, 9, 10, 11, 22, 12, 13, 14, 15, 16, 17, 18, 19, 20, 21] rfl (Wr := [0, 2, 3, 4, 5, 6, 7, 8, 9, 10, 11, 12, 14, 15, 16, 17, 18, 19, 20, 21, 22, 23].filterMap (fun i => (wX3 q a v6_ ++ wX3 q b u)[i]?)) rfl (by decide) (by decide) (by decide) (by decide) (fun _ => rfl) k_508 mX3_copyRow ⟨rfl, rfl⟩ ⟨Nat.le_of_ble_eq_true rfl, Nat.le_of_ble_eq_true rfl⟩ rfl rfl (Nat.le_of_ble_eq_true rfl) dX3_becomes_56 ⟨Nat.zero_le _, Nat.zero_le _⟩ (fun H7 locs7 hP hD hS7 => ?_)
  obtain ⟨v7_, e7, hm⟩ := ltd hm
  have hP7 : va_P D cls (wX3 q a v7_ ++ wX3 q b u) H7 := by rw [e7]; exact hP
  have hD7 : va_D (va_A (wX3 q a v ++ wX3 q b u) s.heap.size) (wX3 q a v7_ ++ wX3 q b u) := by rw [e7]; exact hD
  clear hP hD hP6 hD6 hS6
  refine lv_aload_n hx hb dX3_becomes_59 rfl (lv_at hl0 1 rfl) ?_
  refine va_get (D := D) (ci := 3) (v := .ref (b 7)) (C := RX3) (T := TX3) (N := 17) hx hb hW iX3 hown hK hP7 12 rfl rfl 7 (by decide) (hW _ k_105) (fun _ h => h) rfl dX3_becomes_60 ?_
  refine lv_aload_n hx hb dX3_becomes_63 rfl (lv_at hl0 0 rfl) ?_
  refine va_get (D := D) (ci := 3) (v := .ref (a 7)) (C := RX3) (T := TX3) (N := 17) hx hb hW iX3 hown hK hP7 0 rfl rfl 7 (by decide) (hW _ k_105) (fun _ h => h) rfl dX3_becomes_64 ?_
  obtain ⟨y67, hy67, hm⟩ := bn hm
  refine cSWv (As := [.ref (b 7), .ref (a 7)]) (rest := []) (Wn := fun (uu : (Nat → Int32)) => wX3 q a (upr v7_ 7 uu) ++ wX3 q b u) X hP7 hD7 hS7 (fun _ h => Or.inr h) hl0.1 (c_X3_copyRow l D q H7.size (b 7) 6 (u 7) (a 7) 6 (v7_ 7) y67 hy67) [14, 2] [0, 1, 3, 4, 5, 6, 7, 8, 9, 10, 11, 12, 13, 15, 16, 17, 18, 19, 20, 21, 22, 23] [0, 1, 23, 2, 3, 4, 5, 6, 7, 8, 9, 10, 11, 12, 22, 13, 14, 15, 16, 17, 18, 19, 20, 21] rfl (Wr := [0, 1, 3, 4, 5, 6, 7, 8, 9, 10, 11, 12, 13, 15, 16, 17, 18, 19, 20, 21, 22, 23].filterMap (fun i => (wX3 q a v7_ ++ wX3 q b u)[i]?)) rfl (by decide) (by decide) (by decide) (by decide) (fun _ => rfl) k_508 mX3_copyRow ⟨rfl, rfl⟩ ⟨Nat.le_of_ble_eq_true rfl, Nat.le_of_ble_eq_true rfl⟩ rfl rfl (Nat.le_of_ble_eq_true rfl) dX3_becomes_67 ⟨Nat.zero_le _, Nat.zero_le _⟩ (fun H8 locs8 hP hD hS8 => ?_)
  obtain ⟨v8_, e8, hm⟩ := ltd hm
  have hP8 : va_P D cls (wX3 q a v8_ ++ wX3 q b u) H8 := by rw [e8]; exact hP
  have hD8 : va_D (va_A (wX3 q a v ++ wX3 q b u) s.heap.size) (wX3 q a v8_ ++ wX3 q b u) := by rw [e8]; exact hD
  clear hP hD hP7 hD7 hS7
  refine lv_aload_n hx hb dX3_becomes_70 rfl (lv_at hl0 1 rfl) ?_
  refine va_get (D := D) (ci := 3) (v := .ref (b 8)) (C := RX3) (T := TX3) (N := 17) hx hb hW iX3 hown hK hP8 12 rfl rfl 8 (by decide) (hW _ k_108) (fun _ h => h) rfl dX3_becomes_71 ?_
  refine lv_aload_n hx hb dX3_becomes_74 rfl (lv_at hl0 0 rfl) ?_
  refine va_get (D := D) (ci := 3) (v := .ref (a 8)) (C := RX3) (T := TX3) (N := 17) hx hb hW iX3 hown hK hP8 0 rfl rfl 8 (by decide) (hW _ k_108) (fun _ h => h) rfl dX3_becomes_75 ?_
  obtain ⟨y78, hy78, hm⟩ := bn hm
  refine cSWv (As := [.ref (b 8), .ref (a 8)]) (rest := []) (Wn := fun (uu : (Nat → Int32)) => wX3 q a (upr v8_ 8 uu) ++ wX3 q b u) X hP8 hD8 hS8 (fun _ h => Or.inr h) hl0.1 (c_X3_copyRow l D q H8.size (b 8) 24 (u 8) (a 8) 24 (v8_ 8) y78 hy78) [15, 3] [0, 1, 2, 4, 5, 6, 7, 8, 9, 10, 11, 12, 13, 14, 16, 17, 18, 19, 20, 21, 22, 23] [0, 1, 2, 23, 3, 4, 5, 6, 7, 8, 9, 10, 11, 12, 13, 22, 14, 15, 16, 17, 18, 19, 20, 21] rfl (Wr := [0, 1, 2, 4, 5, 6, 7, 8, 9, 10, 11, 12, 13, 14, 16, 17, 18, 19, 20, 21, 22, 23].filterMap (fun i => (wX3 q a v8_ ++ wX3 q b u)[i]?)) rfl (by decide) (by decide) (by decide) (by decide) (fun _ => rfl) k_508 mX3_copyRow ⟨rfl, rfl⟩ ⟨Nat.le_of_ble_eq_true rfl, Nat.le_of_ble_eq_true rfl⟩ rfl rfl (Nat.le_of_ble_eq_true rfl) dX3_becomes_78 ⟨Nat.zero_le _, Nat.zero_le _⟩ (fun H9 locs9 hP hD hS9 => ?_)
  obtain ⟨v9_, e9, hm⟩ := ltd hm
  have hP9 : va_P D cls (wX3 q a v9_ ++ wX3 q b u) H9 := by rw [e9]; exact hP
  have hD9 : va_D (va_A (wX3 q a v ++ wX3 q b u) s.heap.size) (wX3 q a v9_ ++ wX3 q b u) := by rw [e9]; exact hD
  clear hP hD hP8 hD8 hS8
  refine lv_aload_n hx hb dX3_becomes_81 rfl (lv_at hl0 1 rfl) ?_
  refine va_get (D := D) (ci := 3) (v := .ref (b 9)) (C := RX3) (T := TX3) (N := 17) hx hb hW iX3 hown hK hP9 12 rfl rfl 9 (by decide) (hW _ k_110) (fun _ h => h) rfl dX3_becomes_82 ?_
  refine lv_aload_n hx hb dX3_becomes_85 rfl (lv_at hl0 0 rfl) ?_
  refine va_get (D := D) (ci := 3) (v := .ref (a 9)) (C := RX3) (T := TX3) (N := 17) hx hb hW iX3 hown hK hP9 0 rfl rfl 9 (by decide) (hW _ k_110) (fun _ h => h) rfl dX3_becomes_86 ?_
  obtain ⟨y89, hy89, hm⟩ := bn hm
  refine cSWv (As := [.ref (b 9), .ref (a 9)]) (rest := []) (Wn := fun (uu : (Nat → Int32)) => wX3 q a (upr v9_ 9 uu) ++ wX3 q b u) X hP9 hD9 hS9 (fun _ h => Or.inr h) hl0.1 (c_X3_copyRow l D q H9.size (b 9) 5 (u 9) (a 9) 5 (v9_ 9) y89 hy89) [16, 4] [0, 1, 2, 3, 5, 6, 7, 8, 9, 10, 11, 12, 13, 14, 15, 17, 18, 19, 20, 21, 22, 23] [0, 1, 2, 3, 23, 4, 5, 6, 7, 8, 9, 10, 11, 12, 13, 14, 22, 15, 16, 17, 18, 19, 20, 21] rfl (Wr := [0, 1, 2, 3, 5, 6, 7, 8, 9, 10, 11, 12, 13, 14, 15, 17, 18, 19, 20, 21, 22, 23].filterMap (fun i => (wX3 q a v9_ ++ wX3 q b u)[i]?)) rfl (by decide) (by decide) (by decide) (by decide) (fun _ => rfl) k_508 mX3_copyRow ⟨rfl, rfl⟩ ⟨Nat.le_of_ble_eq_true rfl, Nat.le_of_ble_eq_true rfl⟩ rfl rfl (Nat.le_of_ble_eq_true rfl) dX3_becomes_89 ⟨Nat.zero_le _, Nat.zero_le _⟩ (fun H10 locs10 hP hD hS10 => ?_)
  obtain ⟨v10_, e10, hm⟩ := ltd hm
  have hP10 : va_P D cls (wX3 q a v10_ ++ wX3 q b u) H10 := by rw [e10]; exact hP
  have hD10 : va_D (va_A (wX3 q a v ++ wX3 q b u) s.heap.size) (wX3 q a v10_ ++ wX3 q b u) := by rw [e10]; exact hD
  clear hP hD hP9 hD9 hS9
  refine lv_aload_n hx hb dX3_becomes_92 rfl (lv_at hl0 1 rfl) ?_
  refine va_get (D := D) (ci := 3) (v := .ref (b 10)) (C := RX3) (T := TX3) (N := 17) hx hb hW iX3 hown hK hP10 12 rfl rfl 10 (by decide) (hW _ k_113) (fun _ h => h) rfl dX3_becomes_93 ?_
  refine lv_aload_n hx hb dX3_becomes_96 rfl (lv_at hl0 0 rfl) ?_
  refine va_get (D := D) (ci := 3) (v := .ref (a 10)) (C := RX3) (T := TX3) (N := 17) hx hb hW iX3 hown hK hP10 0 rfl rfl 10 (by decide) (hW _ k_113) (fun _ h => h) rfl dX3_becomes_97 ?_
  obtain ⟨y100, hy100, hm⟩ := bn hm
  refine cSWv (As := [.ref (b 10), .ref (a 10)]) (rest := []) (Wn := fun (uu : (Nat → Int32)) => wX3 q a (upr v10_ 10 uu) ++ wX3 q b u) X hP10 hD10 hS10 (fun _ h => Or.inr h) hl0.1 (c_X3_copyRow l D q H10.size (b 10) 5 (u 10) (a 10) 5 (v10_ 10) y100 hy100) [17, 5] [0, 1, 2, 3, 4, 6, 7, 8, 9, 10, 11, 12, 13, 14, 15, 16, 18, 19, 20, 21, 22, 23] [0, 1, 2, 3, 4, 23, 5, 6, 7, 8, 9, 10, 11, 12, 13, 14, 15, 22, 16, 17, 18, 19, 20, 21] rfl (Wr := [0, 1, 2, 3, 4, 6, 7, 8, 9, 10, 11, 12, 13, 14, 15, 16, 18, 19, 20, 21, 22, 23].filterMap (fun i => (wX3 q a v10_ ++ wX3 q b u)[i]?)) rfl (by decide) (by decide) (by decide) (by decide) (fun _ => rfl) k_508 mX3_copyRow ⟨rfl, rfl⟩ ⟨Nat.le_of_ble_eq_true rfl, Nat.le_of_ble_eq_true rfl⟩ rfl rfl (Nat.le_of_ble_eq_true rfl) dX3_becomes_100 ⟨Nat.zero_le _, Nat.zero_le _⟩ (fun H11 locs11 hP hD hS11 => ?_)
  obtain ⟨v11_, e11, hm⟩ := ltd hm
  have hP11 : va_P D cls (wX3 q a v11_ ++ wX3 q b u) H11 := by rw [e11]; exact hP
  have hD11 : va_D (va_A (wX3 q a v ++ wX3 q b u) s.heap.size) (wX3 q a v11_ ++ wX3 q b u) := by rw [e11]; exact hD
  clear hP hD hP10 hD10 hS10
  refine lv_aload_n hx hb dX3_becomes_103 rfl (lv_at hl0 1 rfl) ?_
  refine va_get (D := D) (ci := 3) (v := .ref (b 11)) (C := RX3) (T := TX3) (N := 17) hx hb hW iX3 hown hK hP11 12 rfl rfl 11 (by decide) (hW _ k_116) (fun _ h => h) rfl dX3_becomes_104 ?_
  refine lv_aload_n hx hb dX3_becomes_107 rfl (lv_at hl0 0 rfl) ?_
  refine va_get (D := D) (ci := 3) (v := .ref (a 11)) (C := RX3) (T := TX3) (N := 17) hx hb hW iX3 hown hK hP11 0 rfl rfl 11 (by decide) (hW _ k_116) (fun _ h => h) rfl dX3_becomes_108 ?_
  obtain ⟨y111, hy111, hm⟩ := bn hm
  refine cSWv (As := [.ref (b 11), .ref (a 11)]) (rest := []) (Wn := fun (uu : (Nat → Int32)) => wX3 q a (upr v11_ 11 uu) ++ wX3 q b u) X hP11 hD11 hS11 (fun _ h => Or.inr h) hl0.1 (c_X3_copyRow l D q H11.size (b 11) 5 (u 11) (a 11) 5 (v11_ 11) y111 hy111) [18, 6] [0, 1, 2, 3, 4, 5, 7, 8, 9, 10, 11, 12, 13, 14, 15, 16, 17, 19, 20, 21, 22, 23] [0, 1, 2, 3, 4, 5, 23, 6, 7, 8, 9, 10, 11, 12, 13, 14, 15, 16, 22, 17, 18, 19, 20, 21] rfl (Wr := [0, 1, 2, 3, 4, 5, 7, 8, 9, 10, 11, 12, 13, 14, 15, 16, 17, 19, 20, 21, 22, 23].filterMap (fun i => (wX3 q a v11_ ++ wX3 q b u)[i]?)) rfl (by decide) (by decide) (by decide) (by decide) (fun _ => rfl) k_508 mX3_copyRow ⟨rfl, rfl⟩ ⟨Nat.le_of_ble_eq_true rfl, Nat.le_of_ble_eq_true rfl⟩ rfl rfl (Nat.le_of_ble_eq_true rfl) dX3_becomes_111 ⟨Nat.zero_le _, Nat.zero_le _⟩ (fun H12 locs12 hP hD hS12 => ?_)
  obtain ⟨v12_, e12, hm⟩ := ltd hm
  have hP12 : va_P D cls (wX3 q a v12_ ++ wX3 q b u) H12 := by rw [e12]; exact hP
  have hD12 : va_D (va_A (wX3 q a v ++ wX3 q b u) s.heap.size) (wX3 q a v12_ ++ wX3 q b u) := by rw [e12]; exact hD
  clear hP hD hP11 hD11 hS11
  refine lv_aload_n hx hb dX3_becomes_114 rfl (lv_at hl0 1 rfl) ?_
  refine va_get (D := D) (ci := 3) (v := .ref (b 12)) (C := RX3) (T := TX3) (N := 17) hx hb hW iX3 hown hK hP12 12 rfl rfl 12 (by decide) (hW _ k_120) (fun _ h => h) rfl dX3_becomes_115 ?_
  refine lv_aload_n hx hb dX3_becomes_118 rfl (lv_at hl0 0 rfl) ?_
  refine va_get (D := D) (ci := 3) (v := .ref (a 12)) (C := RX3) (T := TX3) (N := 17) hx hb hW iX3 hown hK hP12 0 rfl rfl 12 (by decide) (hW _ k_120) (fun _ h => h) rfl dX3_becomes_119 ?_
  obtain ⟨y122, hy122, hm⟩ := bn hm
  refine cSWv (As := [.ref (b 12), .ref (a 12)]) (rest := []) (Wn := fun (uu : (Nat → Int32)) => wX3 q a (upr v12_ 12 uu) ++ wX3 q b u) X hP12 hD12 hS12 (fun _ h => Or.inr h) hl0.1 (c_X3_copyRow l D q H12.size (b 12) 5 (u 12) (a 12) 5 (v12_ 12) y122 hy122) [19, 7] [0, 1, 2, 3, 4, 5, 6, 8, 9, 10, 11, 12, 13, 14, 15, 16, 17, 18, 20, 21, 22, 23] [0, 1, 2, 3, 4, 5, 6, 23, 7, 8, 9, 10, 11, 12, 13, 14, 15, 16, 17, 22, 18, 19, 20, 21] rfl (Wr := [0, 1, 2, 3, 4, 5, 6, 8, 9, 10, 11, 12, 13, 14, 15, 16, 17, 18, 20, 21, 22, 23].filterMap (fun i => (wX3 q a v12_ ++ wX3 q b u)[i]?)) rfl (by decide) (by decide) (by decide) (by decide) (fun _ => rfl) k_508 mX3_copyRow ⟨rfl, rfl⟩ ⟨Nat.le_of_ble_eq_true rfl, Nat.le_of_ble_eq_true rfl⟩ rfl rfl (Nat.le_of_ble_eq_true rfl) dX3_becomes_122 ⟨Nat.zero_le _, Nat.zero_le _⟩ (fun H13 locs13 hP hD hS13 => ?_)
  obtain ⟨v13_, e13, hm⟩ := ltd hm
  have hP13 : va_P D cls (wX3 q a v13_ ++ wX3 q b u) H13 := by rw [e13]; exact hP
  have hD13 : va_D (va_A (wX3 q a v ++ wX3 q b u) s.heap.size) (wX3 q a v13_ ++ wX3 q b u) := by rw [e13]; exact hD
  clear hP hD hP12 hD12 hS12
  refine lv_aload_n hx hb dX3_becomes_125 rfl (lv_at hl0 1 rfl) ?_
  refine va_get (D := D) (ci := 3) (v := .ref (b 13)) (C := RX3) (T := TX3) (N := 17) hx hb hW iX3 hown hK hP13 12 rfl rfl 13 (by decide) (hW _ k_123) (fun _ h => h) rfl dX3_becomes_126 ?_
  refine lv_aload_n hx hb dX3_becomes_129 rfl (lv_at hl0 0 rfl) ?_
  refine va_get (D := D) (ci := 3) (v := .ref (a 13)) (C := RX3) (T := TX3) (N := 17) hx hb hW iX3 hown hK hP13 0 rfl rfl 13 (by decide) (hW _ k_123) (fun _ h => h) rfl dX3_becomes_130 ?_
  obtain ⟨y133, hy133, hm⟩ := bn hm
  refine cSWv (As := [.ref (b 13), .ref (a 13)]) (rest := []) (Wn := fun (uu : (Nat → Int32)) => wX3 q a (upr v13_ 13 uu) ++ wX3 q b u) X hP13 hD13 hS13 (fun _ h => Or.inr h) hl0.1 (c_X3_copyRow l D q H13.size (b 13) 5 (u 13) (a 13) 5 (v13_ 13) y133 hy133) [20, 8] [0, 1, 2, 3, 4, 5, 6, 7, 9, 10, 11, 12, 13, 14, 15, 16, 17, 18, 19, 21, 22, 23] [0, 1, 2, 3, 4, 5, 6, 7, 23, 8, 9, 10, 11, 12, 13, 14, 15, 16, 17, 18, 22, 19, 20, 21] rfl (Wr := [0, 1, 2, 3, 4, 5, 6, 7, 9, 10, 11, 12, 13, 14, 15, 16, 17, 18, 19, 21, 22, 23].filterMap (fun i => (wX3 q a v13_ ++ wX3 q b u)[i]?)) rfl (by decide) (by decide) (by decide) (by decide) (fun _ => rfl) k_508 mX3_copyRow ⟨rfl, rfl⟩ ⟨Nat.le_of_ble_eq_true rfl, Nat.le_of_ble_eq_true rfl⟩ rfl rfl (Nat.le_of_ble_eq_true rfl) dX3_becomes_133 ⟨Nat.zero_le _, Nat.zero_le _⟩ (fun H14 locs14 hP hD hS14 => ?_)
  obtain ⟨v14_, e14, hm⟩ := ltd hm
  have hP14 : va_P D cls (wX3 q a v14_ ++ wX3 q b u) H14 := by rw [e14]; exact hP
  have hD14 : va_D (va_A (wX3 q a v ++ wX3 q b u) s.heap.size) (wX3 q a v14_ ++ wX3 q b u) := by rw [e14]; exact hD
  clear hP hD hP13 hD13 hS13
  refine lv_aload_n hx hb dX3_becomes_136 rfl (lv_at hl0 1 rfl) ?_
  refine va_get (D := D) (ci := 3) (v := .ref (b 14)) (C := RX3) (T := TX3) (N := 17) hx hb hW iX3 hown hK hP14 12 rfl rfl 14 (by decide) (hW _ k_126) (fun _ h => h) rfl dX3_becomes_137 ?_
  refine lv_aload_n hx hb dX3_becomes_140 rfl (lv_at hl0 0 rfl) ?_
  refine va_get (D := D) (ci := 3) (v := .ref (a 14)) (C := RX3) (T := TX3) (N := 17) hx hb hW iX3 hown hK hP14 0 rfl rfl 14 (by decide) (hW _ k_126) (fun _ h => h) rfl dX3_becomes_141 ?_
  obtain ⟨y144, hy144, hm⟩ := bn hm
  refine cSWv (As := [.ref (b 14), .ref (a 14)]) (rest := []) (Wn := fun (uu : (Nat → Int32)) => wX3 q a (upr v14_ 14 uu) ++ wX3 q b u) X hP14 hD14 hS14 (fun _ h => Or.inr h) hl0.1 (c_X3_copyRow l D q H14.size (b 14) 5 (u 14) (a 14) 5 (v14_ 14) y144 hy144) [21, 9] [0, 1, 2, 3, 4, 5, 6, 7, 8, 10, 11, 12, 13, 14, 15, 16, 17, 18, 19, 20, 22, 23] [0, 1, 2, 3, 4, 5, 6, 7, 8, 23, 9, 10, 11, 12, 13, 14, 15, 16, 17, 18, 19, 22, 20, 21] rfl (Wr := [0, 1, 2, 3, 4, 5, 6, 7, 8, 10, 11, 12, 13, 14, 15, 16, 17, 18, 19, 20, 22, 23].filterMap (fun i => (wX3 q a v14_ ++ wX3 q b u)[i]?)) rfl (by decide) (by decide) (by decide) (by decide) (fun _ => rfl) k_508 mX3_copyRow ⟨rfl, rfl⟩ ⟨Nat.le_of_ble_eq_true rfl, Nat.le_of_ble_eq_true rfl⟩ rfl rfl (Nat.le_of_ble_eq_true rfl) dX3_becomes_144 ⟨Nat.zero_le _, Nat.zero_le _⟩ (fun H15 locs15 hP hD hS15 => ?_)
  obtain ⟨v15_, e15, hm⟩ := ltd hm
  have hP15 : va_P D cls (wX3 q a v15_ ++ wX3 q b u) H15 := by rw [e15]; exact hP
  have hD15 : va_D (va_A (wX3 q a v ++ wX3 q b u) s.heap.size) (wX3 q a v15_ ++ wX3 q b u) := by rw [e15]; exact hD
  clear hP hD hP14 hD14 hS14
  refine lv_aload_n hx hb dX3_becomes_147 rfl (lv_at hl0 1 rfl) ?_
  refine va_get (D := D) (ci := 3) (v := .ref (b 15)) (C := RX3) (T := TX3) (N := 17) hx hb hW iX3 hown hK hP15 12 rfl rfl 15 (by decide) (hW _ k_130) (fun _ h => h) rfl dX3_becomes_148 ?_
  refine lv_aload_n hx hb dX3_becomes_151 rfl (lv_at hl0 0 rfl) ?_
  refine va_get (D := D) (ci := 3) (v := .ref (a 15)) (C := RX3) (T := TX3) (N := 17) hx hb hW iX3 hown hK hP15 0 rfl rfl 15 (by decide) (hW _ k_130) (fun _ h => h) rfl dX3_becomes_152 ?_
  obtain ⟨y155, hy155, hm⟩ := bn hm
  refine cSWv (As := [.ref (b 15), .ref (a 15)]) (rest := []) (Wn := fun (uu : (Nat → Int32)) => wX3 q a (upr v15_ 15 uu) ++ wX3 q b u) X hP15 hD15 hS15 (fun _ h => Or.inr h) hl0.1 (c_X3_copyRow l D q H15.size (b 15) 5 (u 15) (a 15) 5 (v15_ 15) y155 hy155) [22, 10] [0, 1, 2, 3, 4, 5, 6, 7, 8, 9, 11, 12, 13, 14, 15, 16, 17, 18, 19, 20, 21, 23] [0, 1, 2, 3, 4, 5, 6, 7, 8, 9, 23, 10, 11, 12, 13, 14, 15, 16, 17, 18, 19, 20, 22, 21] rfl (Wr := [0, 1, 2, 3, 4, 5, 6, 7, 8, 9, 11, 12, 13, 14, 15, 16, 17, 18, 19, 20, 21, 23].filterMap (fun i => (wX3 q a v15_ ++ wX3 q b u)[i]?)) rfl (by decide) (by decide) (by decide) (by decide) (fun _ => rfl) k_508 mX3_copyRow ⟨rfl, rfl⟩ ⟨Nat.le_of_ble_eq_true rfl, Nat.le_of_ble_eq_true rfl⟩ rfl rfl (Nat.le_of_ble_eq_true rfl) dX3_becomes_155 ⟨Nat.zero_le _, Nat.zero_le _⟩ (fun H16 locs16 hP hD hS16 => ?_)
  obtain ⟨v16_, e16, hm⟩ := ltd hm
  have hP16 : va_P D cls (wX3 q a v16_ ++ wX3 q b u) H16 := by rw [e16]; exact hP
  have hD16 : va_D (va_A (wX3 q a v ++ wX3 q b u) s.heap.size) (wX3 q a v16_ ++ wX3 q b u) := by rw [e16]; exact hD
  clear hP hD hP15 hD15 hS15
  refine lv_aload_n hx hb dX3_becomes_158 rfl (lv_at hl0 1 rfl) ?_
  refine va_get (D := D) (ci := 3) (v := .ref (b 16)) (C := RX3) (T := TX3) (N := 17) hx hb hW iX3 hown hK hP16 12 rfl rfl 16 (by decide) (hW _ k_134) (fun _ h => h) rfl dX3_becomes_159 ?_
  refine lv_aload_n hx hb dX3_becomes_162 rfl (lv_at hl0 0 rfl) ?_
  refine va_get (D := D) (ci := 3) (v := .ref (a 16)) (C := RX3) (T := TX3) (N := 17) hx hb hW iX3 hown hK hP16 0 rfl rfl 16 (by decide) (hW _ k_134) (fun _ h => h) rfl dX3_becomes_163 ?_
  obtain ⟨y166, hy166, hm⟩ := bn hm
  refine cSWv (As := [.ref (b 16), .ref (a 16)]) (rest := []) (Wn := fun (uu : (Nat → Int32)) => wX3 q a (upr v16_ 16 uu) ++ wX3 q b u) X hP16 hD16 hS16 (fun _ h => Or.inr h) hl0.1 (c_X3_copyRow l D q H16.size (b 16) 4 (u 16) (a 16) 4 (v16_ 16) y166 hy166) [23, 11] [0, 1, 2, 3, 4, 5, 6, 7, 8, 9, 10, 12, 13, 14, 15, 16, 17, 18, 19, 20, 21, 22] [0, 1, 2, 3, 4, 5, 6, 7, 8, 9, 10, 23, 11, 12, 13, 14, 15, 16, 17, 18, 19, 20, 21, 22] rfl (Wr := [0, 1, 2, 3, 4, 5, 6, 7, 8, 9, 10, 12, 13, 14, 15, 16, 17, 18, 19, 20, 21, 22].filterMap (fun i => (wX3 q a v16_ ++ wX3 q b u)[i]?)) rfl (by decide) (by decide) (by decide) (by decide) (fun _ => rfl) k_508 mX3_copyRow ⟨rfl, rfl⟩ ⟨Nat.le_of_ble_eq_true rfl, Nat.le_of_ble_eq_true rfl⟩ rfl rfl (Nat.le_of_ble_eq_true rfl) dX3_becomes_166 ⟨Nat.zero_le _, Nat.zero_le _⟩ (fun H17 locs17 hP hD hS17 => ?_)
  obtain ⟨v17_, e17, hm⟩ := ltd hm
  have hP17 : va_P D cls (wX3 q a v17_ ++ wX3 q b u) H17 := by rw [e17]; exact hP
  have hD17 : va_D (va_A (wX3 q a v ++ wX3 q b u) s.heap.size) (wX3 q a v17_ ++ wX3 q b u) := by rw [e17]; exact hD
  clear hP hD hP16 hD16 hS16
  exact eWv (Wf := fun (uu : SV) => wX3 q a uu ++ wX3 q b u) (u := v17_) X hr hlocks hP17 hD17 hS17 hm dX3_becomes_169
noncomputable def m_X3_remainder (x1 : Int32) (x2 : Int32) : Option (Int32) :=
  (if x2 ≤ 0 then some (0 : Int32) else ck (dvB x2) (some (x1 - x1 / x2 * x2)))
set_option maxHeartbeats 4000000 in
set_option maxRecDepth 100000 in
theorem c_X3_remainder (l : Launch) (D : va_G) (q : Nat → ClassId) (x1 : Int32) (x2 : Int32) (res : Int32) (hm : m_X3_remainder x1 x2 = some res) : Met l yX3_remainder (mw yX3_remainder cX3_remainder 2 (some .int)) ({ frames := 0, cells := 0, slots := 0, locals := 0 } : Room) (pcR D q ([]) [.int x1, .int x2]) (vp_Si (fun x => x = res)) 0 0 (fun _ => False) := by
  refine Met.ofW (cc := cX3_remainder) (maxL := 2) (ret := (some .int)) (by decide) rfl ?_
  intro p e s m args below meth c s₁ B hml hv
  obtain ⟨rfl, hP0, hK⟩ := hv
  have hx := B.exec
  have hb := B.bytes
  have hr := B.returns
  have hW := mw_ws (atoms_spec (ws := mw yX3_remainder cX3_remainder 2 (some .int)) B.pre)
  have hown : s.vm.findClass RX3 = some m.cls := findClass_of_methodNamed B.named
  have hlocks := B.notSynchronized
  have X : Cx p s m [.int x1, .int x2].toArray c cX3_remainder 2 RX3 D q := ⟨hx, hb, hml, hown, hW, hK⟩
  have hl0 := lv_entry ([.int x1, .int x2]) (n := 2) (Nat.le_of_ble_eq_true rfl)
  rw [lg_entry_eq]
  generalize (lg_sl ([.int x1, .int x2]) ++ List.replicate (2 - (lg_sl ([.int x1, .int x2])).length) Slot.unset).toArray = ls0 at hl0 ⊢
  have hl0 : lv_has ls0 2 [(0, .int x1), (1, .int x2)] := hl0
  unfold m_X3_remainder at hm
  refine lv_iload_n hx hb dX3_remainder_0 rfl (lv_at hl0 1 rfl) ?_
  refine lv_if_le (tgt := 10) hx hb dX3_remainder_1 (by decide) (fun c1 => ?_) (fun c1 => ?_)
  · replace hm := tp hm c1
    refine lv_iconst (v := (0 : Int32)) hx hb dX3_remainder_10 (by decide) ?_
    exact eRi  X hr hlocks hm dX3_remainder_11
  · replace hm := tn hm c1
    refine lv_iload_n hx hb dX3_remainder_4 rfl (lv_at hl0 0 rfl) ?_
    refine lv_iload_n hx hb dX3_remainder_5 rfl (lv_at hl0 1 rfl) ?_
    obtain ⟨h1, hm⟩ := ckd hm
    refine lv_irem hx hb dX3_remainder_6 (dv_ne h1) ?_
    refine lv_goto (tgt := 11) hx hb dX3_remainder_7 (by decide) ?_
    exact eRi  X hr hlocks hm dX3_remainder_11
noncomputable def m_X3_hasPart (v : SV) (x1 : Int32) : Option (Int32) :=
  (if x1 < 0 then some (0 : Int32) else (if (v 0 0) ≤ x1 then some (0 : Int32) else some (1 : Int32)))
set_option maxHeartbeats 4000000 in
set_option maxRecDepth 100000 in
theorem c_X3_hasPart (l : Launch) (D : va_G) (q : Nat → ClassId) (a : Nat → Nat) (v : SV) (x1 : Int32) (res : Int32) (hm : m_X3_hasPart v x1 = some res) : Met l yX3_hasPart (mw yX3_hasPart cX3_hasPart 2 (some .boolean)) ({ frames := 0, cells := 0, slots := 0, locals := 0 } : Room) (pcR D q (wX3 q a v) [.ref (a 99), .int x1]) (vp_Si (fun x => x = res)) 0 0 (fun _ => False) := by
  refine Met.ofW (cc := cX3_hasPart) (maxL := 2) (ret := (some .boolean)) (by decide) rfl ?_
  intro p e s m args below meth c s₁ B hml hv
  obtain ⟨rfl, hP0, hK⟩ := hv
  have hx := B.exec
  have hb := B.bytes
  have hr := B.returns
  have hW := mw_ws (atoms_spec (ws := mw yX3_hasPart cX3_hasPart 2 (some .boolean)) B.pre)
  have hown : s.vm.findClass RX3 = some m.cls := findClass_of_methodNamed B.named
  have hlocks := B.notSynchronized
  have X : Cx p s m [.ref (a 99), .int x1].toArray c cX3_hasPart 2 RX3 D q := ⟨hx, hb, hml, hown, hW, hK⟩
  have hl0 := lv_entry ([.ref (a 99), .int x1]) (n := 2) (Nat.le_of_ble_eq_true rfl)
  rw [lg_entry_eq]
  generalize (lg_sl ([.ref (a 99), .int x1]) ++ List.replicate (2 - (lg_sl ([.ref (a 99), .int x1])).length) Slot.unset).toArray = ls0 at hl0 ⊢
  have hl0 : lv_has ls0 2 [(0, .ref (a 99)), (1, .int x1)] := hl0
  unfold m_X3_hasPart at hm
  refine lv_iload_n hx hb dX3_hasPart_0 rfl (lv_at hl0 1 rfl) ?_
  refine lv_if_lt (tgt := 16) hx hb dX3_hasPart_1 (by decide) (fun c1 => ?_) (fun c1 => ?_)
  · replace hm := tp hm c1
    refine lv_iconst (v := (0 : Int32)) hx hb dX3_hasPart_16 (by decide) ?_
    exact eRz  X hr hlocks rfl hm dX3_hasPart_17
  · replace hm := tn hm c1
    refine lv_iload_n hx hb dX3_hasPart_4 rfl (lv_at hl0 1 rfl) ?_
    refine lv_aload_n hx hb dX3_hasPart_5 rfl (lv_at hl0 0 rfl) ?_
    refine va_get (D := D) (ci := 3) (v := .int (v 0 0)) (C := RX3) (T := TX3) (N := 17) hx hb hW iX3 hown hK hP0 0 rfl rfl 0 (by decide) (hW _ k_82) (fun _ h => h) rfl dX3_hasPart_6 ?_
    refine lv_icmp_ge (tgt := 16) hx hb dX3_hasPart_9 (by decide) (fun c9 => ?_) (fun c9 => ?_)
    · replace hm := tp hm c9
      refine lv_iconst (v := (0 : Int32)) hx hb dX3_hasPart_16 (by decide) ?_
      exact eRz  X hr hlocks rfl hm dX3_hasPart_17
    · replace hm := tn hm c9
      refine lv_iconst (v := (1 : Int32)) hx hb dX3_hasPart_12 (by decide) ?_
      refine lv_goto (tgt := 17) hx hb dX3_hasPart_13 (by decide) ?_
      exact eRz  X hr hlocks rfl hm dX3_hasPart_17
noncomputable def m_X3_hasSitter (v : SV) (x1 : Int32) : Option (Int32) :=
  (if x1 < 0 then some (0 : Int32) else (if (v 0 1) ≤ x1 then some (0 : Int32) else some (1 : Int32)))
set_option maxHeartbeats 4000000 in
set_option maxRecDepth 100000 in
theorem c_X3_hasSitter (l : Launch) (D : va_G) (q : Nat → ClassId) (a : Nat → Nat) (v : SV) (x1 : Int32) (res : Int32) (hm : m_X3_hasSitter v x1 = some res) : Met l yX3_hasSitter (mw yX3_hasSitter cX3_hasSitter 2 (some .boolean)) ({ frames := 0, cells := 0, slots := 0, locals := 0 } : Room) (pcR D q (wX3 q a v) [.ref (a 99), .int x1]) (vp_Si (fun x => x = res)) 0 0 (fun _ => False) := by
  refine Met.ofW (cc := cX3_hasSitter) (maxL := 2) (ret := (some .boolean)) (by decide) rfl ?_
  intro p e s m args below meth c s₁ B hml hv
  obtain ⟨rfl, hP0, hK⟩ := hv
  have hx := B.exec
  have hb := B.bytes
  have hr := B.returns
  have hW := mw_ws (atoms_spec (ws := mw yX3_hasSitter cX3_hasSitter 2 (some .boolean)) B.pre)
  have hown : s.vm.findClass RX3 = some m.cls := findClass_of_methodNamed B.named
  have hlocks := B.notSynchronized
  have X : Cx p s m [.ref (a 99), .int x1].toArray c cX3_hasSitter 2 RX3 D q := ⟨hx, hb, hml, hown, hW, hK⟩
  have hl0 := lv_entry ([.ref (a 99), .int x1]) (n := 2) (Nat.le_of_ble_eq_true rfl)
  rw [lg_entry_eq]
  generalize (lg_sl ([.ref (a 99), .int x1]) ++ List.replicate (2 - (lg_sl ([.ref (a 99), .int x1])).length) Slot.unset).toArray = ls0 at hl0 ⊢
  have hl0 : lv_has ls0 2 [(0, .ref (a 99)), (1, .int x1)] := hl0
  unfold m_X3_hasSitter at hm
  refine lv_iload_n hx hb dX3_hasSitter_0 rfl (lv_at hl0 1 rfl) ?_
  refine lv_if_lt (tgt := 16) hx hb dX3_hasSitter_1 (by decide) (fun c1 => ?_) (fun c1 => ?_)
  · replace hm := tp hm c1
    refine lv_iconst (v := (0 : Int32)) hx hb dX3_hasSitter_16 (by decide) ?_
    exact eRz  X hr hlocks rfl hm dX3_hasSitter_17
  · replace hm := tn hm c1
    refine lv_iload_n hx hb dX3_hasSitter_4 rfl (lv_at hl0 1 rfl) ?_
    refine lv_aload_n hx hb dX3_hasSitter_5 rfl (lv_at hl0 0 rfl) ?_
    refine va_get (D := D) (ci := 3) (v := .int (v 0 1)) (C := RX3) (T := TX3) (N := 17) hx hb hW iX3 hown hK hP0 0 rfl rfl 1 (by decide) (hW _ k_86) (fun _ h => h) rfl dX3_hasSitter_6 ?_
    refine lv_icmp_ge (tgt := 16) hx hb dX3_hasSitter_9 (by decide) (fun c9 => ?_) (fun c9 => ?_)
    · replace hm := tp hm c9
      refine lv_iconst (v := (0 : Int32)) hx hb dX3_hasSitter_16 (by decide) ?_
      exact eRz  X hr hlocks rfl hm dX3_hasSitter_17
    · replace hm := tn hm c9
      refine lv_iconst (v := (1 : Int32)) hx hb dX3_hasSitter_12 (by decide) ?_
      refine lv_goto (tgt := 17) hx hb dX3_hasSitter_13 (by decide) ?_
      exact eRz  X hr hlocks rfl hm dX3_hasSitter_17
noncomputable def m_X3_everybody (v : SV) : Option (Int32) :=
  some (((1 : Int32) <<< ((v 0 1) &&& 31)) - (1 : Int32))
set_option maxHeartbeats 4000000 in
set_option maxRecDepth 100000 in
theorem c_X3_everybody (l : Launch) (D : va_G) (q : Nat → ClassId) (a : Nat → Nat) (v : SV) (res : Int32) (hm : m_X3_everybody v = some res) : Met l yX3_everybody (mw yX3_everybody cX3_everybody 1 (some .int)) ({ frames := 0, cells := 0, slots := 0, locals := 0 } : Room) (pcR D q (wX3 q a v) [.ref (a 99)]) (vp_Si (fun x => x = res)) 0 0 (fun _ => False) := by
  refine Met.ofW (cc := cX3_everybody) (maxL := 1) (ret := (some .int)) (by decide) rfl ?_
  intro p e s m args below meth c s₁ B hml hv
  obtain ⟨rfl, hP0, hK⟩ := hv
  have hx := B.exec
  have hb := B.bytes
  have hr := B.returns
  have hW := mw_ws (atoms_spec (ws := mw yX3_everybody cX3_everybody 1 (some .int)) B.pre)
  have hown : s.vm.findClass RX3 = some m.cls := findClass_of_methodNamed B.named
  have hlocks := B.notSynchronized
  have X : Cx p s m [.ref (a 99)].toArray c cX3_everybody 1 RX3 D q := ⟨hx, hb, hml, hown, hW, hK⟩
  have hl0 := lv_entry ([.ref (a 99)]) (n := 1) (Nat.le_of_ble_eq_true rfl)
  rw [lg_entry_eq]
  generalize (lg_sl ([.ref (a 99)]) ++ List.replicate (1 - (lg_sl ([.ref (a 99)])).length) Slot.unset).toArray = ls0 at hl0 ⊢
  have hl0 : lv_has ls0 1 [(0, .ref (a 99))] := hl0
  unfold m_X3_everybody at hm
  refine lv_iconst (v := (1 : Int32)) hx hb dX3_everybody_0 (by decide) ?_
  refine lv_aload_n hx hb dX3_everybody_1 rfl (lv_at hl0 0 rfl) ?_
  refine va_get (D := D) (ci := 3) (v := .int (v 0 1)) (C := RX3) (T := TX3) (N := 17) hx hb hW iX3 hown hK hP0 0 rfl rfl 1 (by decide) (hW _ k_86) (fun _ h => h) rfl dX3_everybody_2 ?_
  refine lv_ishl hx hb dX3_everybody_5 ?_
  refine lv_iconst (v := (1 : Int32)) hx hb dX3_everybody_6 (by decide) ?_
  refine lv_isub hx hb dX3_everybody_7 ?_
  exact eRi  X hr hlocks hm dX3_everybody_8
noncomputable def m_X3_top (v : SV) (x1 : Int32) : Option (Int32) :=
  (m_X3_hasPart v x1).bind (fun y2 => (if y2 = 0 then some (-4 : Int32) else ck (inB x1 6) ((if (v 7 ((x1).toNatClampNeg)) = 0 then some (-4 : Int32) else ck (inB x1 6) (ck (inB (((x1 * (4 : Int32)) + (v 7 ((x1).toNatClampNeg))) - (1 : Int32)) 24) (some (v 8 (((((x1 * (4 : Int32)) + (v 7 ((x1).toNatClampNeg))) - (1 : Int32))).toNatClampNeg))))))))
set_option maxHeartbeats 4000000 in
set_option maxRecDepth 100000 in
theorem c_X3_top (l : Launch) (D : va_G) (q : Nat → ClassId) (a : Nat → Nat) (v : SV) (x1 : Int32) (res : Int32) (hm : m_X3_top v x1 = some res) : Met l yX3_top (mw yX3_top cX3_top 2 (some .int)) ({ frames := 1, cells := 0, slots := 0, locals := 21 } : Room) (pcR D q (wX3 q a v) [.ref (a 99), .int x1]) (vp_Si (fun x => x = res)) 0 0 (fun _ => False) := by
  refine Met.ofW (cc := cX3_top) (maxL := 2) (ret := (some .int)) (by decide) rfl ?_
  intro p e s m args below meth c s₁ B hml hv
  obtain ⟨rfl, hP0, hK⟩ := hv
  have hx := B.exec
  have hb := B.bytes
  have hr := B.returns
  have hW := mw_ws (atoms_spec (ws := mw yX3_top cX3_top 2 (some .int)) B.pre)
  have hown : s.vm.findClass RX3 = some m.cls := findClass_of_methodNamed B.named
  have hlocks := B.notSynchronized
  have X : Cx p s m [.ref (a 99), .int x1].toArray c cX3_top 2 RX3 D q := ⟨hx, hb, hml, hown, hW, hK⟩
  have hl0 := lv_entry ([.ref (a 99), .int x1]) (n := 2) (Nat.le_of_ble_eq_true rfl)
  rw [lg_entry_eq]
  generalize (lg_sl ([.ref (a 99), .int x1]) ++ List.replicate (2 - (lg_sl ([.ref (a 99), .int x1])).length) Slot.unset).toArray = ls0 at hl0 ⊢
  have hl0 : lv_has ls0 2 [(0, .ref (a 99)), (1, .int x1)] := hl0
  unfold m_X3_top at hm
  refine lv_aload_n hx hb dX3_top_0 rfl (lv_at hl0 0 rfl) ?_
  refine lv_iload_n hx hb dX3_top_1 rfl (lv_at hl0 1 rfl) ?_
  obtain ⟨y2, hy2, hm⟩ := bn hm
  refine cVRi (As := [.int x1]) (rest := []) X hP0 hl0.1 (c_X3_hasPart l D q a v x1 y2 hy2) [0, 1, 2, 3, 4, 5, 6, 7, 8, 9, 10, 11] rfl 0 rfl rfl rfl k_530 mX3_hasPart ⟨rfl, rfl⟩ ⟨Nat.le_of_ble_eq_true rfl, Nat.le_of_ble_eq_true rfl⟩ rfl rfl (Nat.le_of_ble_eq_true rfl) dX3_top_2 ⟨Nat.zero_le _, Nat.zero_le _⟩ ?_
  refine lv_if_eq (tgt := 17) hx hb dX3_top_5 (by decide) (fun c5 => ?_) (fun c5 => ?_)
  · replace hm := tp hm c5
    refine lv_bipush (v := (-4 : Int32)) hx hb dX3_top_17 (by decide) ?_
    exact eRi  X hr hlocks hm dX3_top_19
  · replace hm := tn hm c5
    refine lv_aload_n hx hb dX3_top_8 rfl (lv_at hl0 0 rfl) ?_
    refine va_get (D := D) (ci := 3) (v := .ref (a 7)) (C := RX3) (T := TX3) (N := 17) hx hb hW iX3 hown hK hP0 0 rfl rfl 7 (by decide) (hW _ k_105) (fun _ h => h) rfl dX3_top_9 ?_
    refine lv_iload_n hx hb dX3_top_12 rfl (lv_at hl0 1 rfl) ?_
    obtain ⟨h1, hm⟩ := ckd hm
    refine va_iald (f := (v 7)) hx hb hK hP0 2 0 rfl rfl (inB_vp h1) dX3_top_13 ?_
    refine lv_if_ne (tgt := 20) hx hb dX3_top_14 (by decide) (fun c14 => ?_) (fun c14 => ?_)
    · replace hm := tn hm c14
      refine lv_aload_n hx hb dX3_top_20 rfl (lv_at hl0 0 rfl) ?_
      refine va_get (D := D) (ci := 3) (v := .ref (a 8)) (C := RX3) (T := TX3) (N := 17) hx hb hW iX3 hown hK hP0 0 rfl rfl 8 (by decide) (hW _ k_108) (fun _ h => h) rfl dX3_top_21 ?_
      refine lv_iload_n hx hb dX3_top_24 rfl (lv_at hl0 1 rfl) ?_
      refine lv_iconst (v := (4 : Int32)) hx hb dX3_top_25 (by decide) ?_
      refine lv_imul hx hb dX3_top_26 ?_
      refine lv_aload_n hx hb dX3_top_27 rfl (lv_at hl0 0 rfl) ?_
      refine va_get (D := D) (ci := 3) (v := .ref (a 7)) (C := RX3) (T := TX3) (N := 17) hx hb hW iX3 hown hK hP0 0 rfl rfl 7 (by decide) (hW _ k_105) (fun _ h => h) rfl dX3_top_28 ?_
      refine lv_iload_n hx hb dX3_top_31 rfl (lv_at hl0 1 rfl) ?_
      obtain ⟨h2, hm⟩ := ckd hm
      refine va_iald (f := (v 7)) hx hb hK hP0 2 0 rfl rfl (inB_vp h2) dX3_top_32 ?_
      refine lv_iadd hx hb dX3_top_33 ?_
      refine lv_iconst (v := (1 : Int32)) hx hb dX3_top_34 (by decide) ?_
      refine lv_isub hx hb dX3_top_35 ?_
      obtain ⟨h3, hm⟩ := ckd hm
      refine va_iald (f := (v 8)) hx hb hK hP0 3 0 rfl rfl (inB_vp h3) dX3_top_36 ?_
      exact eRi  X hr hlocks hm dX3_top_37
    · replace hm := tp hm c14
      refine lv_bipush (v := (-4 : Int32)) hx hb dX3_top_17 (by decide) ?_
      exact eRi  X hr hlocks hm dX3_top_19
noncomputable def m_X3_showing_K4 (z4 : Int32 × Int32) : Option (Int32) :=
  some z4.1
noncomputable def m_X3_showing_L4 (v : SV) (x1 : Int32) (z4 : Int32 × Int32) : Option ((Int32 × Int32) ⊕ (Int32 × Int32)) :=
  (if (v 0 0) ≤ z4.2 then some (.inr (z4.1, z4.2)) else (m_X3_top v z4.2).bind (fun y14 => (if y14 = x1 then some (.inl ((z4.1 ||| ((1 : Int32) <<< (z4.2 &&& 31))), (z4.2 + (1 : Int32)))) else some (.inl (z4.1, (z4.2 + (1 : Int32)))))))
noncomputable def m_X3_showing (v : SV) (x1 : Int32) : Option (Int32) :=
  (lpC (m_X3_showing_L4 v x1) ((0 : Int32), (0 : Int32))).bind (m_X3_showing_K4)
set_option maxHeartbeats 4000000 in
set_option maxRecDepth 100000 in
theorem c_X3_showing (l : Launch) (D : va_G) (q : Nat → ClassId) (a : Nat → Nat) (v : SV) (x1 : Int32) (res : Int32) (hm : m_X3_showing v x1 = some res) : Met l yX3_showing (mw yX3_showing cX3_showing 4 (some .int)) ({ frames := 2, cells := 0, slots := 0, locals := 42 } : Room) (pcR D q (wX3 q a v) [.ref (a 99), .int x1]) (vp_Si (fun x => x = res)) 0 0 (fun _ => False) := by
  refine Met.ofW (cc := cX3_showing) (maxL := 4) (ret := (some .int)) (by decide) rfl ?_
  intro p e s m args below meth c s₁ B hml hv
  obtain ⟨rfl, hP0, hK⟩ := hv
  have hx := B.exec
  have hb := B.bytes
  have hr := B.returns
  have hW := mw_ws (atoms_spec (ws := mw yX3_showing cX3_showing 4 (some .int)) B.pre)
  have hown : s.vm.findClass RX3 = some m.cls := findClass_of_methodNamed B.named
  have hlocks := B.notSynchronized
  have X : Cx p s m [.ref (a 99), .int x1].toArray c cX3_showing 4 RX3 D q := ⟨hx, hb, hml, hown, hW, hK⟩
  have hl0 := lv_entry ([.ref (a 99), .int x1]) (n := 4) (Nat.le_of_ble_eq_true rfl)
  rw [lg_entry_eq]
  generalize (lg_sl ([.ref (a 99), .int x1]) ++ List.replicate (4 - (lg_sl ([.ref (a 99), .int x1])).length) Slot.unset).toArray = ls0 at hl0 ⊢
  have hl0 : lv_has ls0 4 [(0, .ref (a 99)), (1, .int x1)] := hl0
  unfold m_X3_showing at hm
  refine lv_iconst (v := (0 : Int32)) hx hb dX3_showing_0 (by decide) ?_
  refine lv_istore_n (lv' := [(2, .int (0 : Int32)), (0, .ref (a 99)), (1, .int x1)]) hx hb dX3_showing_1 rfl hl0 (by decide) rfl (fun ls1 hl1 => ?_)
  clear hl0
  refine lv_iconst (v := (0 : Int32)) hx hb dX3_showing_2 (by decide) ?_
  refine lv_istore_n (lv' := [(3, .int (0 : Int32)), (2, .int (0 : Int32)), (0, .ref (a 99)), (1, .int x1)]) hx hb dX3_showing_3 rfl hl1 (by decide) rfl (fun ls2 hl2 => ?_)
  clear hl1
  obtain ⟨r4, hr4, hm⟩ := bn hm
  obtain ⟨n4, hn4⟩ := lpC_ex hr4
  have hE4 : ∀ z4 : Int32 × Int32, m_X3_showing_K4 z4 = some res → ∀ ls : Array Slot, lv_has ls 4 [(2, .int z4.1)] → W p l e ((headSpec (mw yX3_showing cX3_showing 4 (some .int)) ({ frames := 2, cells := 0, slots := 0, locals := 42 } : Room)).room) s m [.ref (a 99), .int x1].toArray below meth c s.heap [] 0 0 (MQ below (vp_Si (fun x => x = res)) [.ref (a 99), .int x1].toArray s 0 0 (fun _ => False)) (F0 m 33 ls []) := by
    intro z4 hm ls4 hl4
    unfold m_X3_showing_K4 at hm
    refine lv_iload_n hx hb dX3_showing_33 rfl (lv_at hl4 0 rfl) ?_
    exact eRi  X hr hlocks hm dX3_showing_34
  have hL4 : ∀ (n : Nat) (z4 : Int32 × Int32) (ρ4 : Int32 × Int32), lpO (m_X3_showing_L4 v x1) n z4 = some ρ4 → (m_X3_showing_K4) ρ4 = some res → ∀ ls : Array Slot, lv_has ls 4 [(0, .ref (a 99)), (1, .int x1), (2, .int z4.1), (3, .int z4.2)] → W p l e ((headSpec (mw yX3_showing cX3_showing 4 (some .int)) ({ frames := 2, cells := 0, slots := 0, locals := 42 } : Room)).room) s m [.ref (a 99), .int x1].toArray below meth c s.heap [] 0 0 (MQ below (vp_Si (fun x => x = res)) [.ref (a 99), .int x1].toArray s 0 0 (fun _ => False)) (F0 m 4 ls []) := by
    intro n
    induction n with
    | zero => intro _ _ h; cases h
    | succ n ih4 =>
      intro z4 ρ4 hz4 hK4 ls3 hl3
      obtain ⟨t4, hm, hz4⟩ := bn hz4
      unfold m_X3_showing_L4 at hm
      refine lv_iload_n hx hb dX3_showing_4 rfl (lv_at hl3 3 rfl) ?_
      refine lv_aload_n hx hb dX3_showing_5 rfl (lv_at hl3 0 rfl) ?_
      refine va_get (D := D) (ci := 3) (v := .int (v 0 0)) (C := RX3) (T := TX3) (N := 17) hx hb hW iX3 hown hK hP0 0 rfl rfl 0 (by decide) (hW _ k_82) (fun _ h => h) rfl dX3_showing_6 ?_
      refine lv_icmp_ge (tgt := 33) hx hb dX3_showing_9 (by decide) (fun c9 => ?_) (fun c9 => ?_)
      · replace hm := tp hm c9
        cases hm
        cases hz4
        exact hE4 (z4.1, z4.2) hK4 _ (lv_sub hl3 [2] rfl)
      · replace hm := tn hm c9
        refine lv_aload_n hx hb dX3_showing_12 rfl (lv_at hl3 0 rfl) ?_
        refine lv_iload_n hx hb dX3_showing_13 rfl (lv_at hl3 3 rfl) ?_
        obtain ⟨y14, hy14, hm⟩ := bn hm
        refine cVRi (As := [.int z4.2]) (rest := []) X hP0 hl3.1 (c_X3_top l D q a v z4.2 y14 hy14) [0, 1, 2, 3, 4, 5, 6, 7, 8, 9, 10, 11] rfl 0 rfl rfl rfl k_526 mX3_top ⟨rfl, rfl⟩ ⟨Nat.le_of_ble_eq_true rfl, Nat.le_of_ble_eq_true rfl⟩ rfl rfl (Nat.le_of_ble_eq_true rfl) dX3_showing_14 ⟨Nat.zero_le _, Nat.zero_le _⟩ ?_
        refine lv_iload_n hx hb dX3_showing_17 rfl (lv_at hl3 1 rfl) ?_
        refine lv_icmp_ne (tgt := 27) hx hb dX3_showing_18 (by decide) (fun c18 => ?_) (fun c18 => ?_)
        · replace hm := tn hm c18
          refine lv_iinc (v := (z4.2 + (1 : Int32))) (lv' := [(3, .int (z4.2 + (1 : Int32))), (0, .ref (a 99)), (1, .int x1), (2, .int z4.1)]) hx hb dX3_showing_27 hl3 (k := 3) rfl rfl (by decide) rfl (fun ls7 hl7 => ?_)
          clear hl3
          refine lv_goto (tgt := 4) hx hb dX3_showing_30 (by decide) ?_
          cases hm
          exact ih4 (z4.1, (z4.2 + (1 : Int32))) ρ4 hz4 hK4 _ (lv_sub hl7 [1, 2, 3, 0] rfl)
        · replace hm := tp hm c18
          refine lv_iload_n hx hb dX3_showing_21 rfl (lv_at hl3 2 rfl) ?_
          refine lv_iconst (v := (1 : Int32)) hx hb dX3_showing_22 (by decide) ?_
          refine lv_iload_n hx hb dX3_showing_23 rfl (lv_at hl3 3 rfl) ?_
          refine lv_ishl hx hb dX3_showing_24 ?_
          refine lv_ior hx hb dX3_showing_25 ?_
          refine lv_istore_n (lv' := [(2, .int (z4.1 ||| ((1 : Int32) <<< (z4.2 &&& 31)))), (0, .ref (a 99)), (1, .int x1), (3, .int z4.2)]) hx hb dX3_showing_26 rfl hl3 (by decide) rfl (fun ls5 hl5 => ?_)
          clear hl3
          refine lv_iinc (v := (z4.2 + (1 : Int32))) (lv' := [(3, .int (z4.2 + (1 : Int32))), (2, .int (z4.1 ||| ((1 : Int32) <<< (z4.2 &&& 31)))), (0, .ref (a 99)), (1, .int x1)]) hx hb dX3_showing_27 hl5 (k := 3) rfl rfl (by decide) rfl (fun ls6 hl6 => ?_)
          clear hl5
          refine lv_goto (tgt := 4) hx hb dX3_showing_30 (by decide) ?_
          cases hm
          exact ih4 ((z4.1 ||| ((1 : Int32) <<< (z4.2 &&& 31))), (z4.2 + (1 : Int32))) ρ4 hz4 hK4 _ (lv_sub hl6 [2, 3, 1, 0] rfl)
  exact hL4 n4 ((0 : Int32), (0 : Int32)) r4 hn4 hm _ (lv_sub hl2 [2, 3, 1, 0] rfl)
noncomputable def m_X3_sumOf_K4 (z4 : Int32 × Int32) : Option (Int32) :=
  some z4.1
noncomputable def m_X3_sumOf_L4 (v : SV) (n1 : Nat) (f1 : Nat → Int32) (z4 : Int32 × Int32) : Option ((Int32 × Int32) ⊕ (Int32 × Int32)) :=
  (if (v 0 0) ≤ z4.2 then some (.inr (z4.1, z4.2)) else (if (Int32.ofNat n1) ≤ z4.2 then some (.inr (z4.1, z4.2)) else ck (inB z4.2 n1) (some (.inl ((z4.1 + (f1 ((z4.2).toNatClampNeg))), (z4.2 + (1 : Int32)))))))
noncomputable def m_X3_sumOf (v : SV) (n1 : Nat) (f1 : Nat → Int32) : Option (Int32) :=
  (lpC (m_X3_sumOf_L4 v n1 f1) ((0 : Int32), (0 : Int32))).bind (m_X3_sumOf_K4)
set_option maxHeartbeats 4000000 in
set_option maxRecDepth 100000 in
theorem c_X3_sumOf (l : Launch) (D : va_G) (q : Nat → ClassId) (a : Nat → Nat) (v : SV) (r1 : Nat) (n1 : Nat) (f1 : Nat → Int32) (res : Int32) (hm : m_X3_sumOf v n1 f1 = some res) : Met l yX3_sumOf (mw yX3_sumOf cX3_sumOf 4 (some .int)) ({ frames := 0, cells := 0, slots := 0, locals := 0 } : Room) (pcR D q (wX3 q a v ++ [(r1, .inl (q 0, n1, .inl f1))]) [.ref (a 99), .ref r1]) (vp_Si (fun x => x = res)) 0 0 (fun _ => False) := by
  refine Met.ofW (cc := cX3_sumOf) (maxL := 4) (ret := (some .int)) (by decide) rfl ?_
  intro p e s m args below meth c s₁ B hml hv
  obtain ⟨rfl, hP0, hK⟩ := hv
  have hx := B.exec
  have hb := B.bytes
  have hr := B.returns
  have hW := mw_ws (atoms_spec (ws := mw yX3_sumOf cX3_sumOf 4 (some .int)) B.pre)
  have hown : s.vm.findClass RX3 = some m.cls := findClass_of_methodNamed B.named
  have hlocks := B.notSynchronized
  have X : Cx p s m [.ref (a 99), .ref r1].toArray c cX3_sumOf 4 RX3 D q := ⟨hx, hb, hml, hown, hW, hK⟩
  have hl0 := lv_entry ([.ref (a 99), .ref r1]) (n := 4) (Nat.le_of_ble_eq_true rfl)
  rw [lg_entry_eq]
  generalize (lg_sl ([.ref (a 99), .ref r1]) ++ List.replicate (4 - (lg_sl ([.ref (a 99), .ref r1])).length) Slot.unset).toArray = ls0 at hl0 ⊢
  have hl0 : lv_has ls0 4 [(0, .ref (a 99)), (1, .ref r1)] := hl0
  unfold m_X3_sumOf at hm
  refine lv_iconst (v := (0 : Int32)) hx hb dX3_sumOf_0 (by decide) ?_
  refine lv_istore_n (lv' := [(2, .int (0 : Int32)), (0, .ref (a 99)), (1, .ref r1)]) hx hb dX3_sumOf_1 rfl hl0 (by decide) rfl (fun ls1 hl1 => ?_)
  clear hl0
  refine lv_iconst (v := (0 : Int32)) hx hb dX3_sumOf_2 (by decide) ?_
  refine lv_istore_n (lv' := [(3, .int (0 : Int32)), (2, .int (0 : Int32)), (0, .ref (a 99)), (1, .ref r1)]) hx hb dX3_sumOf_3 rfl hl1 (by decide) rfl (fun ls2 hl2 => ?_)
  clear hl1
  obtain ⟨r4, hr4, hm⟩ := bn hm
  obtain ⟨n4, hn4⟩ := lpC_ex hr4
  have hE4 : ∀ z4 : Int32 × Int32, m_X3_sumOf_K4 z4 = some res → ∀ ls : Array Slot, lv_has ls 4 [(2, .int z4.1)] → W p l e ((headSpec (mw yX3_sumOf cX3_sumOf 4 (some .int)) ({ frames := 0, cells := 0, slots := 0, locals := 0 } : Room)).room) s m [.ref (a 99), .ref r1].toArray below meth c s.heap [] 0 0 (MQ below (vp_Si (fun x => x = res)) [.ref (a 99), .ref r1].toArray s 0 0 (fun _ => False)) (F0 m 30 ls []) := by
    intro z4 hm ls4 hl4
    unfold m_X3_sumOf_K4 at hm
    refine lv_iload_n hx hb dX3_sumOf_30 rfl (lv_at hl4 0 rfl) ?_
    exact eRi  X hr hlocks hm dX3_sumOf_31
  have hL4 : ∀ (n : Nat) (z4 : Int32 × Int32) (ρ4 : Int32 × Int32), lpO (m_X3_sumOf_L4 v n1 f1) n z4 = some ρ4 → (m_X3_sumOf_K4) ρ4 = some res → ∀ ls : Array Slot, lv_has ls 4 [(0, .ref (a 99)), (1, .ref r1), (2, .int z4.1), (3, .int z4.2)] → W p l e ((headSpec (mw yX3_sumOf cX3_sumOf 4 (some .int)) ({ frames := 0, cells := 0, slots := 0, locals := 0 } : Room)).room) s m [.ref (a 99), .ref r1].toArray below meth c s.heap [] 0 0 (MQ below (vp_Si (fun x => x = res)) [.ref (a 99), .ref r1].toArray s 0 0 (fun _ => False)) (F0 m 4 ls []) := by
    intro n
    induction n with
    | zero => intro _ _ h; cases h
    | succ n ih4 =>
      intro z4 ρ4 hz4 hK4 ls3 hl3
      obtain ⟨t4, hm, hz4⟩ := bn hz4
      unfold m_X3_sumOf_L4 at hm
      refine lv_iload_n hx hb dX3_sumOf_4 rfl (lv_at hl3 3 rfl) ?_
      refine lv_aload_n hx hb dX3_sumOf_5 rfl (lv_at hl3 0 rfl) ?_
      refine va_get (D := D) (ci := 3) (v := .int (v 0 0)) (C := RX3) (T := TX3) (N := 17) hx hb hW iX3 hown hK hP0 0 rfl rfl 0 (by decide) (hW _ k_82) (fun _ h => h) rfl dX3_sumOf_6 ?_
      refine lv_icmp_ge (tgt := 30) hx hb dX3_sumOf_9 (by decide) (fun c9 => ?_) (fun c9 => ?_)
      · replace hm := tp hm c9
        cases hm
        cases hz4
        exact hE4 (z4.1, z4.2) hK4 _ (lv_sub hl3 [2] rfl)
      · replace hm := tn hm c9
        refine lv_iload_n hx hb dX3_sumOf_12 rfl (lv_at hl3 3 rfl) ?_
        refine lv_aload_n hx hb dX3_sumOf_13 rfl (lv_at hl3 1 rfl) ?_
        refine va_alen (v := (Int32.ofNat n1)) hx hb hK hP0 12 0 rfl rfl rfl dX3_sumOf_14 ?_
        refine lv_icmp_ge (tgt := 30) hx hb dX3_sumOf_15 (by decide) (fun c15 => ?_) (fun c15 => ?_)
        · replace hm := tp hm c15
          cases hm
          cases hz4
          exact hE4 (z4.1, z4.2) hK4 _ (lv_sub hl3 [2] rfl)
        · replace hm := tn hm c15
          refine lv_iload_n hx hb dX3_sumOf_18 rfl (lv_at hl3 2 rfl) ?_
          refine lv_aload_n hx hb dX3_sumOf_19 rfl (lv_at hl3 1 rfl) ?_
          refine lv_iload_n hx hb dX3_sumOf_20 rfl (lv_at hl3 3 rfl) ?_
          obtain ⟨h5, hm⟩ := ckd hm
          refine va_iald (f := f1) hx hb hK hP0 12 0 rfl rfl (inB_vp h5) dX3_sumOf_21 ?_
          refine lv_iadd hx hb dX3_sumOf_22 ?_
          refine lv_istore_n (lv' := [(2, .int (z4.1 + (f1 ((z4.2).toNatClampNeg)))), (0, .ref (a 99)), (1, .ref r1), (3, .int z4.2)]) hx hb dX3_sumOf_23 rfl hl3 (by decide) rfl (fun ls6 hl6 => ?_)
          clear hl3
          refine lv_iinc (v := (z4.2 + (1 : Int32))) (lv' := [(3, .int (z4.2 + (1 : Int32))), (2, .int (z4.1 + (f1 ((z4.2).toNatClampNeg)))), (0, .ref (a 99)), (1, .ref r1)]) hx hb dX3_sumOf_24 hl6 (k := 3) rfl rfl (by decide) rfl (fun ls7 hl7 => ?_)
          clear hl6
          refine lv_goto (tgt := 4) hx hb dX3_sumOf_27 (by decide) ?_
          cases hm
          exact ih4 ((z4.1 + (f1 ((z4.2).toNatClampNeg))), (z4.2 + (1 : Int32))) ρ4 hz4 hK4 _ (lv_sub hl7 [2, 3, 1, 0] rfl)
  exact hL4 n4 ((0 : Int32), (0 : Int32)) r4 hn4 hm _ (lv_sub hl2 [2, 3, 1, 0] rfl)
noncomputable def m_X3_sit (v : SV) (x1 : Int32) (x2 : Int32) : Option (Int32 × SV) :=
  (m_X3_hasPart v x1).bind (fun y2 => (if y2 = 0 then some ((-1 : Int32), v) else (m_X3_hasSitter v x2).bind (fun y10 => (if y10 = 0 then some ((-1 : Int32), v) else ck (inB x1 6) ((if (v 7 ((x1).toNatClampNeg)) = (4 : Int32) then some ((-3 : Int32), v) else (m_X3_cover v x1 x2).bind (fun y34 => ck (inB x1 6) (some ((y34 7 ((x1).toNatClampNeg)), y34)))))))))
set_option maxHeartbeats 4000000 in
set_option maxRecDepth 100000 in
theorem c_X3_sit (l : Launch) (D : va_G) (q : Nat → ClassId) (sz : Nat) (a : Nat → Nat) (v : SV) (x1 : Int32) (x2 : Int32) (res : Int32 × SV) (hm : m_X3_sit v x1 x2 = some res) : Met l yX3_sit (mw yX3_sit cX3_sit 3 (some .int)) ({ frames := 2, cells := 0, slots := 0, locals := 83 } : Room) (pcW D q (wX3 q a v) sz [.ref (a 99), .int x1, .int x2]) (va_Qi (fun r w => r = res.1 ∧ w = res.2) (bW D q (wX3 q a v) sz (fun (uu : SV) => wX3 q a uu)) (va_A (wX3 q a v) sz)) 0 0 (va_A (wX3 q a v) sz) := by
  refine Met.ofW (cc := cX3_sit) (maxL := 3) (ret := (some .int)) (by decide) rfl ?_
  intro p e s m args below meth c s₁ B hml hv
  obtain ⟨rfl, hsz, hP0, hK, hD0⟩ := hv
  have hx := B.exec
  have hb := B.bytes
  have hr := B.returns
  have hW := mw_ws (atoms_spec (ws := mw yX3_sit cX3_sit 3 (some .int)) B.pre)
  have hown : s.vm.findClass RX3 = some m.cls := findClass_of_methodNamed B.named
  have hlocks := B.notSynchronized
  have X : Cx p s m [.ref (a 99), .int x1, .int x2].toArray c cX3_sit 3 RX3 D q := ⟨hx, hb, hml, hown, hW, hK⟩
  subst hsz
  replace hD0 := hD0.self (sz := s.heap.size)
  have hS0 : va_S (va_A (wX3 q a v) s.heap.size) s.heap s.heap [] := va_S.rf
  have hl0 := lv_entry ([.ref (a 99), .int x1, .int x2]) (n := 3) (Nat.le_of_ble_eq_true rfl)
  rw [lg_entry_eq]
  generalize (lg_sl ([.ref (a 99), .int x1, .int x2]) ++ List.replicate (3 - (lg_sl ([.ref (a 99), .int x1, .int x2])).length) Slot.unset).toArray = ls0 at hl0 ⊢
  have hl0 : lv_has ls0 3 [(0, .ref (a 99)), (1, .int x1), (2, .int x2)] := hl0
  unfold m_X3_sit at hm
  refine lv_aload_n hx hb dX3_sit_0 rfl (lv_at hl0 0 rfl) ?_
  refine lv_iload_n hx hb dX3_sit_1 rfl (lv_at hl0 1 rfl) ?_
  obtain ⟨y2, hy2, hm⟩ := bn hm
  refine cVRi (As := [.int x1]) (rest := []) X hP0 hl0.1 (c_X3_hasPart l D q a v x1 y2 hy2) [0, 1, 2, 3, 4, 5, 6, 7, 8, 9, 10, 11] rfl 0 rfl rfl rfl k_530 mX3_hasPart ⟨rfl, rfl⟩ ⟨Nat.le_of_ble_eq_true rfl, Nat.le_of_ble_eq_true rfl⟩ rfl rfl (Nat.le_of_ble_eq_true rfl) dX3_sit_2 ⟨Nat.zero_le _, Nat.zero_le _⟩ ?_
  refine lv_if_eq (tgt := 16) hx hb dX3_sit_5 (by decide) (fun c5 => ?_) (fun c5 => ?_)
  · replace hm := tp hm c5
    refine lv_iconst (v := (-1 : Int32)) hx hb dX3_sit_16 (by decide) ?_
    exact eWi (Wf := fun (uu : SV) => wX3 q a uu) (u := v) X hr hlocks hP0 hD0 hS0 hm dX3_sit_17
  · replace hm := tn hm c5
    refine lv_aload_n hx hb dX3_sit_8 rfl (lv_at hl0 0 rfl) ?_
    refine lv_iload_n hx hb dX3_sit_9 rfl (lv_at hl0 2 rfl) ?_
    obtain ⟨y10, hy10, hm⟩ := bn hm
    refine cVRi (As := [.int x2]) (rest := []) X hP0 hl0.1 (c_X3_hasSitter l D q a v x2 y10 hy10) [0, 1, 2, 3, 4, 5, 6, 7, 8, 9, 10, 11] rfl 0 rfl rfl rfl k_583 mX3_hasSitter ⟨rfl, rfl⟩ ⟨Nat.le_of_ble_eq_true rfl, Nat.le_of_ble_eq_true rfl⟩ rfl rfl (Nat.le_of_ble_eq_true rfl) dX3_sit_10 ⟨Nat.zero_le _, Nat.zero_le _⟩ ?_
    refine lv_if_ne (tgt := 18) hx hb dX3_sit_13 (by decide) (fun c13 => ?_) (fun c13 => ?_)
    · replace hm := tn hm c13
      refine lv_aload_n hx hb dX3_sit_18 rfl (lv_at hl0 0 rfl) ?_
      refine va_get (D := D) (ci := 3) (v := .ref (a 7)) (C := RX3) (T := TX3) (N := 17) hx hb hW iX3 hown hK hP0 0 rfl rfl 7 (by decide) (hW _ k_105) (fun _ h => h) rfl dX3_sit_19 ?_
      refine lv_iload_n hx hb dX3_sit_22 rfl (lv_at hl0 1 rfl) ?_
      obtain ⟨h1, hm⟩ := ckd hm
      refine va_iald (f := (v 7)) hx hb hK hP0 2 0 rfl rfl (inB_vp h1) dX3_sit_23 ?_
      refine lv_iconst (v := (4 : Int32)) hx hb dX3_sit_24 (by decide) ?_
      refine lv_icmp_ne (tgt := 31) hx hb dX3_sit_25 (by decide) (fun c25 => ?_) (fun c25 => ?_)
      · replace hm := tn hm c25
        refine lv_aload_n hx hb dX3_sit_31 rfl (lv_at hl0 0 rfl) ?_
        refine lv_iload_n hx hb dX3_sit_32 rfl (lv_at hl0 1 rfl) ?_
        refine lv_iload_n hx hb dX3_sit_33 rfl (lv_at hl0 2 rfl) ?_
        obtain ⟨y34, hy34, hm⟩ := bn hm
        refine cVWv (As := [.int x1, .int x2]) (rest := []) (Wn := fun (uu : SV) => wX3 q a uu) X hP0 hD0 hS0 (fun _ h => Or.inr h) hl0.1 (c_X3_cover l D q s.heap.size a v x1 x2 y34 hy34) [0, 1, 2, 3, 4, 5, 6, 7, 8, 9, 10, 11] [] [0, 1, 2, 3, 4, 5, 6, 7, 8, 9, 10, 11] rfl (Wr := []) rfl (by decide) (by decide) (by decide) (by decide) (fun _ => rfl) 0 rfl rfl rfl k_584 mX3_cover ⟨rfl, rfl⟩ ⟨Nat.le_of_ble_eq_true rfl, Nat.le_of_ble_eq_true rfl⟩ rfl rfl (Nat.le_of_ble_eq_true rfl) dX3_sit_34 ⟨Nat.zero_le _, Nat.zero_le _⟩ (fun H2 locs2 hP hD hS2 => ?_)
        have hP2 : va_P D cls (wX3 q a y34) H2 := hP
        have hD2 : va_D (va_A (wX3 q a v) s.heap.size) (wX3 q a y34) := hD
        clear hP hD hP0 hD0 hS0
        refine lv_aload_n hx hb dX3_sit_37 rfl (lv_at hl0 0 rfl) ?_
        refine va_get (D := D) (ci := 3) (v := .ref (a 7)) (C := RX3) (T := TX3) (N := 17) hx hb hW iX3 hown hK hP2 0 rfl rfl 7 (by decide) (hW _ k_105) (fun _ h => h) rfl dX3_sit_38 ?_
        refine lv_iload_n hx hb dX3_sit_41 rfl (lv_at hl0 1 rfl) ?_
        obtain ⟨h3, hm⟩ := ckd hm
        refine va_iald (f := (y34 7)) hx hb hK hP2 2 0 rfl rfl (inB_vp h3) dX3_sit_42 ?_
        exact eWi (Wf := fun (uu : SV) => wX3 q a uu) (u := y34) X hr hlocks hP2 hD2 hS2 hm dX3_sit_43
      · replace hm := tp hm c25
        refine lv_bipush (v := (-3 : Int32)) hx hb dX3_sit_28 (by decide) ?_
        exact eWi (Wf := fun (uu : SV) => wX3 q a uu) (u := v) X hr hlocks hP0 hD0 hS0 hm dX3_sit_30
    · replace hm := tp hm c13
      refine lv_iconst (v := (-1 : Int32)) hx hb dX3_sit_16 (by decide) ?_
      exact eWi (Wf := fun (uu : SV) => wX3 q a uu) (u := v) X hr hlocks hP0 hD0 hS0 hm dX3_sit_17
noncomputable def m_X3_findsLike (v : SV) (x1 : Int32) (x2 : Int32) : Option (Int32) :=
  ck (inB x1 5) (ck (inB x2 5) (ck (inB x1 5) ((if (v 9 ((x1).toNatClampNeg)) = (0 : Int32) then (if (1 : Int32) < (if 0 ≤ ((v 10 ((x1).toNatClampNeg)) - (v 10 ((x2).toNatClampNeg))) then ((v 10 ((x1).toNatClampNeg)) - (v 10 ((x2).toNatClampNeg))) else (0 : Int32) - ((v 10 ((x1).toNatClampNeg)) - (v 10 ((x2).toNatClampNeg)))) then some (0 : Int32) else some (1 : Int32)) else (if (v 9 ((x1).toNatClampNeg)) = (1 : Int32) then (if (if 0 ≤ ((v 10 ((x1).toNatClampNeg)) - (v 10 ((x2).toNatClampNeg))) then ((v 10 ((x1).toNatClampNeg)) - (v 10 ((x2).toNatClampNeg))) else (0 : Int32) - ((v 10 ((x1).toNatClampNeg)) - (v 10 ((x2).toNatClampNeg)))) ≤ (1 : Int32) then some (1 : Int32) else ck (inB x2 5) ((if (v 9 ((x2).toNatClampNeg)) = (1 : Int32) then some (1 : Int32) else some (0 : Int32)))) else (if (v 9 ((x1).toNatClampNeg)) = (2 : Int32) then (if (if 0 ≤ ((v 10 ((x1).toNatClampNeg)) - (v 10 ((x2).toNatClampNeg))) then ((v 10 ((x1).toNatClampNeg)) - (v 10 ((x2).toNatClampNeg))) else (0 : Int32) - ((v 10 ((x1).toNatClampNeg)) - (v 10 ((x2).toNatClampNeg)))) = 0 then some (1 : Int32) else some (0 : Int32)) else some (0 : Int32)))))))
set_option maxHeartbeats 4000000 in
set_option maxRecDepth 100000 in
theorem c_X3_findsLike (l : Launch) (D : va_G) (q : Nat → ClassId) (a : Nat → Nat) (v : SV) (x1 : Int32) (x2 : Int32) (res : Int32) (hm : m_X3_findsLike v x1 x2 = some res) : Met l yX3_findsLike (mw yX3_findsLike cX3_findsLike 4 (some .boolean)) ({ frames := 1, cells := 0, slots := 0, locals := 21 } : Room) (pcR D q (wX3 q a v) [.ref (a 99), .int x1, .int x2]) (vp_Si (fun x => x = res)) 0 0 (fun _ => False) := by
  refine Met.ofW (cc := cX3_findsLike) (maxL := 4) (ret := (some .boolean)) (by decide) rfl ?_
  intro p e s m args below meth c s₁ B hml hv
  obtain ⟨rfl, hP0, hK⟩ := hv
  have hx := B.exec
  have hb := B.bytes
  have hr := B.returns
  have hW := mw_ws (atoms_spec (ws := mw yX3_findsLike cX3_findsLike 4 (some .boolean)) B.pre)
  have hown : s.vm.findClass RX3 = some m.cls := findClass_of_methodNamed B.named
  have hlocks := B.notSynchronized
  have X : Cx p s m [.ref (a 99), .int x1, .int x2].toArray c cX3_findsLike 4 RX3 D q := ⟨hx, hb, hml, hown, hW, hK⟩
  have hl0 := lv_entry ([.ref (a 99), .int x1, .int x2]) (n := 4) (Nat.le_of_ble_eq_true rfl)
  rw [lg_entry_eq]
  generalize (lg_sl ([.ref (a 99), .int x1, .int x2]) ++ List.replicate (4 - (lg_sl ([.ref (a 99), .int x1, .int x2])).length) Slot.unset).toArray = ls0 at hl0 ⊢
  have hl0 : lv_has ls0 4 [(0, .ref (a 99)), (1, .int x1), (2, .int x2)] := hl0
  unfold m_X3_findsLike at hm
  refine lv_aload_n hx hb dX3_findsLike_0 rfl (lv_at hl0 0 rfl) ?_
  refine va_get (D := D) (ci := 3) (v := .ref (a 10)) (C := RX3) (T := TX3) (N := 17) hx hb hW iX3 hown hK hP0 0 rfl rfl 10 (by decide) (hW _ k_113) (fun _ h => h) rfl dX3_findsLike_1 ?_
  refine lv_iload_n hx hb dX3_findsLike_4 rfl (lv_at hl0 1 rfl) ?_
  obtain ⟨h1, hm⟩ := ckd hm
  refine va_iald (f := (v 10)) hx hb hK hP0 5 0 rfl rfl (inB_vp h1) dX3_findsLike_5 ?_
  refine lv_aload_n hx hb dX3_findsLike_6 rfl (lv_at hl0 0 rfl) ?_
  refine va_get (D := D) (ci := 3) (v := .ref (a 10)) (C := RX3) (T := TX3) (N := 17) hx hb hW iX3 hown hK hP0 0 rfl rfl 10 (by decide) (hW _ k_113) (fun _ h => h) rfl dX3_findsLike_7 ?_
  refine lv_iload_n hx hb dX3_findsLike_10 rfl (lv_at hl0 2 rfl) ?_
  obtain ⟨h2, hm⟩ := ckd hm
  refine va_iald (f := (v 10)) hx hb hK hP0 5 0 rfl rfl (inB_vp h2) dX3_findsLike_11 ?_
  refine lv_isub hx hb dX3_findsLike_12 ?_
  refine va_mabs hx hb (by rw [X.2.2.1]; exact hl0.1.symm) hown (hW _ k_568) (hW _ k_569) (hW _ k_52) (hW _ k_570) (by exact Nat.le_of_ble_eq_true rfl) (by exact Nat.le_of_ble_eq_true rfl) (Nat.zero_le _) (Nat.zero_le _) dX3_findsLike_13 ?_
  refine lv_istore_n (lv' := [(3, .int (if 0 ≤ ((v 10 ((x1).toNatClampNeg)) - (v 10 ((x2).toNatClampNeg))) then ((v 10 ((x1).toNatClampNeg)) - (v 10 ((x2).toNatClampNeg))) else (0 : Int32) - ((v 10 ((x1).toNatClampNeg)) - (v 10 ((x2).toNatClampNeg))))), (0, .ref (a 99)), (1, .int x1), (2, .int x2)]) hx hb dX3_findsLike_16 rfl hl0 (by decide) rfl (fun ls3 hl3 => ?_)
  clear hl0
  refine lv_aload_n hx hb dX3_findsLike_17 rfl (lv_at hl3 1 rfl) ?_
  refine va_get (D := D) (ci := 3) (v := .ref (a 9)) (C := RX3) (T := TX3) (N := 17) hx hb hW iX3 hown hK hP0 0 rfl rfl 9 (by decide) (hW _ k_110) (fun _ h => h) rfl dX3_findsLike_18 ?_
  refine lv_iload_n hx hb dX3_findsLike_21 rfl (lv_at hl3 2 rfl) ?_
  obtain ⟨h4, hm⟩ := ckd hm
  refine va_iald (f := (v 9)) hx hb hK hP0 4 0 rfl rfl (inB_vp h4) dX3_findsLike_22 ?_
  by_cases c23_0 : (v 9 ((x1).toNatClampNeg)) = (0 : Int32)
  · replace hm := tp hm c23_0
    refine lv_tableIn (off := 25) (tgt := 48) hx hb dX3_findsLike_23 (by rw [c23_0]; decide) (by rw [c23_0]; decide) (by rw [c23_0]; rfl) (by decide) ?_
    refine lv_iload_n hx hb dX3_findsLike_48 rfl (lv_at hl3 0 rfl) ?_
    refine lv_iconst (v := (1 : Int32)) hx hb dX3_findsLike_49 (by decide) ?_
    refine lv_icmp_gt (tgt := 57) hx hb dX3_findsLike_50 (by decide) (fun c50 => ?_) (fun c50 => ?_)
    · replace hm := tp hm c50
      refine lv_iconst (v := (0 : Int32)) hx hb dX3_findsLike_57 (by decide) ?_
      exact eRz  X hr hlocks rfl hm dX3_findsLike_58
    · replace hm := tn hm c50
      refine lv_iconst (v := (1 : Int32)) hx hb dX3_findsLike_53 (by decide) ?_
      refine lv_goto (tgt := 58) hx hb dX3_findsLike_54 (by decide) ?_
      exact eRz  X hr hlocks rfl hm dX3_findsLike_58
  · replace hm := tn hm c23_0
    by_cases c23_1 : (v 9 ((x1).toNatClampNeg)) = (1 : Int32)
    · replace hm := tp hm c23_1
      refine lv_tableIn (off := 36) (tgt := 59) hx hb dX3_findsLike_23 (by rw [c23_1]; decide) (by rw [c23_1]; decide) (by rw [c23_1]; rfl) (by decide) ?_
      refine lv_iload_n hx hb dX3_findsLike_59 rfl (lv_at hl3 0 rfl) ?_
      refine lv_iconst (v := (1 : Int32)) hx hb dX3_findsLike_60 (by decide) ?_
      refine lv_icmp_le (tgt := 74) hx hb dX3_findsLike_61 (by decide) (fun c61 => ?_) (fun c61 => ?_)
      · replace hm := tp hm c61
        refine lv_iconst (v := (1 : Int32)) hx hb dX3_findsLike_74 (by decide) ?_
        refine lv_goto (tgt := 79) hx hb dX3_findsLike_75 (by decide) ?_
        exact eRz  X hr hlocks rfl hm dX3_findsLike_79
      · replace hm := tn hm c61
        refine lv_aload_n hx hb dX3_findsLike_64 rfl (lv_at hl3 1 rfl) ?_
        refine va_get (D := D) (ci := 3) (v := .ref (a 9)) (C := RX3) (T := TX3) (N := 17) hx hb hW iX3 hown hK hP0 0 rfl rfl 9 (by decide) (hW _ k_110) (fun _ h => h) rfl dX3_findsLike_65 ?_
        refine lv_iload_n hx hb dX3_findsLike_68 rfl (lv_at hl3 3 rfl) ?_
        obtain ⟨h5, hm⟩ := ckd hm
        refine va_iald (f := (v 9)) hx hb hK hP0 4 0 rfl rfl (inB_vp h5) dX3_findsLike_69 ?_
        refine lv_iconst (v := (1 : Int32)) hx hb dX3_findsLike_70 (by decide) ?_
        refine lv_icmp_ne (tgt := 78) hx hb dX3_findsLike_71 (by decide) (fun c71 => ?_) (fun c71 => ?_)
        · replace hm := tn hm c71
          refine lv_iconst (v := (0 : Int32)) hx hb dX3_findsLike_78 (by decide) ?_
          exact eRz  X hr hlocks rfl hm dX3_findsLike_79
        · replace hm := tp hm c71
          refine lv_iconst (v := (1 : Int32)) hx hb dX3_findsLike_74 (by decide) ?_
          refine lv_goto (tgt := 79) hx hb dX3_findsLike_75 (by decide) ?_
          exact eRz  X hr hlocks rfl hm dX3_findsLike_79
    · replace hm := tn hm c23_1
      by_cases c23_2 : (v 9 ((x1).toNatClampNeg)) = (2 : Int32)
      · replace hm := tp hm c23_2
        refine lv_tableIn (off := 57) (tgt := 80) hx hb dX3_findsLike_23 (by rw [c23_2]; decide) (by rw [c23_2]; decide) (by rw [c23_2]; rfl) (by decide) ?_
        refine lv_iload_n hx hb dX3_findsLike_80 rfl (lv_at hl3 0 rfl) ?_
        refine lv_if_ne (tgt := 88) hx hb dX3_findsLike_81 (by decide) (fun c81 => ?_) (fun c81 => ?_)
        · replace hm := tn hm c81
          refine lv_iconst (v := (0 : Int32)) hx hb dX3_findsLike_88 (by decide) ?_
          exact eRz  X hr hlocks rfl hm dX3_findsLike_89
        · replace hm := tp hm c81
          refine lv_iconst (v := (1 : Int32)) hx hb dX3_findsLike_84 (by decide) ?_
          refine lv_goto (tgt := 89) hx hb dX3_findsLike_85 (by decide) ?_
          exact eRz  X hr hlocks rfl hm dX3_findsLike_89
      · replace hm := tn hm c23_2
        have hk23 : (v 9 ((x1).toNatClampNeg)).toInt < 0 ∨ 2 < (v 9 ((x1).toNatClampNeg)).toInt := by
          have g0 := lv_neT c23_0 (show ((0 : Int32)).toInt = 0 from rfl)
          have g1 := lv_neT c23_1 (show ((1 : Int32)).toInt = 1 from rfl)
          have g2 := lv_neT c23_2 (show ((2 : Int32)).toInt = 2 from rfl)
          omega
        refine lv_tableOut (tgt := 90) hx hb dX3_findsLike_23 hk23 (by decide) ?_
        refine lv_iconst (v := (0 : Int32)) hx hb dX3_findsLike_90 (by decide) ?_
        exact eRz  X hr hlocks rfl hm dX3_findsLike_91
noncomputable def m_X3_areLike (v : SV) (x1 : Int32) (x2 : Int32) : Option (Int32) :=
  (if x1 = x2 then some (1 : Int32) else (m_X3_findsLike v x1 x2).bind (fun y8 => (if y8 = 0 then some (0 : Int32) else (m_X3_findsLike v x2 x1).bind (fun y17 => (if y17 = 0 then some (0 : Int32) else some (1 : Int32))))))
set_option maxHeartbeats 4000000 in
set_option maxRecDepth 100000 in
theorem c_X3_areLike (l : Launch) (D : va_G) (q : Nat → ClassId) (a : Nat → Nat) (v : SV) (x1 : Int32) (x2 : Int32) (res : Int32) (hm : m_X3_areLike v x1 x2 = some res) : Met l yX3_areLike (mw yX3_areLike cX3_areLike 3 (some .boolean)) ({ frames := 2, cells := 0, slots := 0, locals := 44 } : Room) (pcR D q (wX3 q a v) [.ref (a 99), .int x1, .int x2]) (vp_Si (fun x => x = res)) 0 0 (fun _ => False) := by
  refine Met.ofW (cc := cX3_areLike) (maxL := 3) (ret := (some .boolean)) (by decide) rfl ?_
  intro p e s m args below meth c s₁ B hml hv
  obtain ⟨rfl, hP0, hK⟩ := hv
  have hx := B.exec
  have hb := B.bytes
  have hr := B.returns
  have hW := mw_ws (atoms_spec (ws := mw yX3_areLike cX3_areLike 3 (some .boolean)) B.pre)
  have hown : s.vm.findClass RX3 = some m.cls := findClass_of_methodNamed B.named
  have hlocks := B.notSynchronized
  have X : Cx p s m [.ref (a 99), .int x1, .int x2].toArray c cX3_areLike 3 RX3 D q := ⟨hx, hb, hml, hown, hW, hK⟩
  have hl0 := lv_entry ([.ref (a 99), .int x1, .int x2]) (n := 3) (Nat.le_of_ble_eq_true rfl)
  rw [lg_entry_eq]
  generalize (lg_sl ([.ref (a 99), .int x1, .int x2]) ++ List.replicate (3 - (lg_sl ([.ref (a 99), .int x1, .int x2])).length) Slot.unset).toArray = ls0 at hl0 ⊢
  have hl0 : lv_has ls0 3 [(0, .ref (a 99)), (1, .int x1), (2, .int x2)] := hl0
  unfold m_X3_areLike at hm
  refine lv_iload_n hx hb dX3_areLike_0 rfl (lv_at hl0 1 rfl) ?_
  refine lv_iload_n hx hb dX3_areLike_1 rfl (lv_at hl0 2 rfl) ?_
  refine lv_icmp_eq (tgt := 23) hx hb dX3_areLike_2 (by decide) (fun c2 => ?_) (fun c2 => ?_)
  · replace hm := tp hm c2
    refine lv_iconst (v := (1 : Int32)) hx hb dX3_areLike_23 (by decide) ?_
    refine lv_goto (tgt := 28) hx hb dX3_areLike_24 (by decide) ?_
    exact eRz  X hr hlocks rfl hm dX3_areLike_28
  · replace hm := tn hm c2
    refine lv_aload_n hx hb dX3_areLike_5 rfl (lv_at hl0 0 rfl) ?_
    refine lv_iload_n hx hb dX3_areLike_6 rfl (lv_at hl0 1 rfl) ?_
    refine lv_iload_n hx hb dX3_areLike_7 rfl (lv_at hl0 2 rfl) ?_
    obtain ⟨y8, hy8, hm⟩ := bn hm
    refine cVRi (As := [.int x1, .int x2]) (rest := []) X hP0 hl0.1 (c_X3_findsLike l D q a v x1 x2 y8 hy8) [0, 1, 2, 3, 4, 5, 6, 7, 8, 9, 10, 11] rfl 0 rfl rfl rfl k_564 mX3_findsLike ⟨rfl, rfl⟩ ⟨Nat.le_of_ble_eq_true rfl, Nat.le_of_ble_eq_true rfl⟩ rfl rfl (Nat.le_of_ble_eq_true rfl) dX3_areLike_8 ⟨Nat.zero_le _, Nat.zero_le _⟩ ?_
    refine lv_if_eq (tgt := 27) hx hb dX3_areLike_11 (by decide) (fun c11 => ?_) (fun c11 => ?_)
    · replace hm := tp hm c11
      refine lv_iconst (v := (0 : Int32)) hx hb dX3_areLike_27 (by decide) ?_
      exact eRz  X hr hlocks rfl hm dX3_areLike_28
    · replace hm := tn hm c11
      refine lv_aload_n hx hb dX3_areLike_14 rfl (lv_at hl0 0 rfl) ?_
      refine lv_iload_n hx hb dX3_areLike_15 rfl (lv_at hl0 2 rfl) ?_
      refine lv_iload_n hx hb dX3_areLike_16 rfl (lv_at hl0 1 rfl) ?_
      obtain ⟨y17, hy17, hm⟩ := bn hm
      refine cVRi (As := [.int x2, .int x1]) (rest := []) X hP0 hl0.1 (c_X3_findsLike l D q a v x2 x1 y17 hy17) [0, 1, 2, 3, 4, 5, 6, 7, 8, 9, 10, 11] rfl 0 rfl rfl rfl k_564 mX3_findsLike ⟨rfl, rfl⟩ ⟨Nat.le_of_ble_eq_true rfl, Nat.le_of_ble_eq_true rfl⟩ rfl rfl (Nat.le_of_ble_eq_true rfl) dX3_areLike_17 ⟨Nat.zero_le _, Nat.zero_le _⟩ ?_
      refine lv_if_eq (tgt := 27) hx hb dX3_areLike_20 (by decide) (fun c20 => ?_) (fun c20 => ?_)
      · replace hm := tp hm c20
        refine lv_iconst (v := (0 : Int32)) hx hb dX3_areLike_27 (by decide) ?_
        exact eRz  X hr hlocks rfl hm dX3_areLike_28
      · replace hm := tn hm c20
        refine lv_iconst (v := (1 : Int32)) hx hb dX3_areLike_23 (by decide) ?_
        refine lv_goto (tgt := 28) hx hb dX3_areLike_24 (by decide) ?_
        exact eRz  X hr hlocks rfl hm dX3_areLike_28
noncomputable def m_X3_showsLike (v : SV) (x1 : Int32) : Option (Int32) :=
  ck (inB x1 5) ((m_X3_top v (v 14 ((x1).toNatClampNeg))).bind (fun y7 => ck (inB x1 5) ((m_X3_top v (v 15 ((x1).toNatClampNeg))).bind (fun y18 => (if y7 = (-4 : Int32) then some (0 : Int32) else (if y18 = (-4 : Int32) then some (0 : Int32) else (m_X3_areLike v y7 y18).bind (fun y37 => (if y37 = 0 then some (0 : Int32) else some (1 : Int32)))))))))
set_option maxHeartbeats 4000000 in
set_option maxRecDepth 100000 in
theorem c_X3_showsLike (l : Launch) (D : va_G) (q : Nat → ClassId) (a : Nat → Nat) (v : SV) (x1 : Int32) (res : Int32) (hm : m_X3_showsLike v x1 = some res) : Met l yX3_showsLike (mw yX3_showsLike cX3_showsLike 4 (some .boolean)) ({ frames := 3, cells := 0, slots := 0, locals := 66 } : Room) (pcR D q (wX3 q a v) [.ref (a 99), .int x1]) (vp_Si (fun x => x = res)) 0 0 (fun _ => False) := by
  refine Met.ofW (cc := cX3_showsLike) (maxL := 4) (ret := (some .boolean)) (by decide) rfl ?_
  intro p e s m args below meth c s₁ B hml hv
  obtain ⟨rfl, hP0, hK⟩ := hv
  have hx := B.exec
  have hb := B.bytes
  have hr := B.returns
  have hW := mw_ws (atoms_spec (ws := mw yX3_showsLike cX3_showsLike 4 (some .boolean)) B.pre)
  have hown : s.vm.findClass RX3 = some m.cls := findClass_of_methodNamed B.named
  have hlocks := B.notSynchronized
  have X : Cx p s m [.ref (a 99), .int x1].toArray c cX3_showsLike 4 RX3 D q := ⟨hx, hb, hml, hown, hW, hK⟩
  have hl0 := lv_entry ([.ref (a 99), .int x1]) (n := 4) (Nat.le_of_ble_eq_true rfl)
  rw [lg_entry_eq]
  generalize (lg_sl ([.ref (a 99), .int x1]) ++ List.replicate (4 - (lg_sl ([.ref (a 99), .int x1])).length) Slot.unset).toArray = ls0 at hl0 ⊢
  have hl0 : lv_has ls0 4 [(0, .ref (a 99)), (1, .int x1)] := hl0
  unfold m_X3_showsLike at hm
  refine lv_aload_n hx hb dX3_showsLike_0 rfl (lv_at hl0 0 rfl) ?_
  refine lv_aload_n hx hb dX3_showsLike_1 rfl (lv_at hl0 0 rfl) ?_
  refine va_get (D := D) (ci := 3) (v := .ref (a 14)) (C := RX3) (T := TX3) (N := 17) hx hb hW iX3 hown hK hP0 0 rfl rfl 14 (by decide) (hW _ k_126) (fun _ h => h) rfl dX3_showsLike_2 ?_
  refine lv_iload_n hx hb dX3_showsLike_5 rfl (lv_at hl0 1 rfl) ?_
  obtain ⟨h1, hm⟩ := ckd hm
  refine va_iald (f := (v 14)) hx hb hK hP0 9 0 rfl rfl (inB_vp h1) dX3_showsLike_6 ?_
  obtain ⟨y7, hy7, hm⟩ := bn hm
  refine cVRi (As := [.int (v 14 ((x1).toNatClampNeg))]) (rest := []) X hP0 hl0.1 (c_X3_top l D q a v (v 14 ((x1).toNatClampNeg)) y7 hy7) [0, 1, 2, 3, 4, 5, 6, 7, 8, 9, 10, 11] rfl 0 rfl rfl rfl k_526 mX3_top ⟨rfl, rfl⟩ ⟨Nat.le_of_ble_eq_true rfl, Nat.le_of_ble_eq_true rfl⟩ rfl rfl (Nat.le_of_ble_eq_true rfl) dX3_showsLike_7 ⟨Nat.zero_le _, Nat.zero_le _⟩ ?_
  refine lv_istore_n (lv' := [(2, .int y7), (0, .ref (a 99)), (1, .int x1)]) hx hb dX3_showsLike_10 rfl hl0 (by decide) rfl (fun ls2 hl2 => ?_)
  clear hl0
  refine lv_aload_n hx hb dX3_showsLike_11 rfl (lv_at hl2 1 rfl) ?_
  refine lv_aload_n hx hb dX3_showsLike_12 rfl (lv_at hl2 1 rfl) ?_
  refine va_get (D := D) (ci := 3) (v := .ref (a 15)) (C := RX3) (T := TX3) (N := 17) hx hb hW iX3 hown hK hP0 0 rfl rfl 15 (by decide) (hW _ k_130) (fun _ h => h) rfl dX3_showsLike_13 ?_
  refine lv_iload_n hx hb dX3_showsLike_16 rfl (lv_at hl2 2 rfl) ?_
  obtain ⟨h3, hm⟩ := ckd hm
  refine va_iald (f := (v 15)) hx hb hK hP0 10 0 rfl rfl (inB_vp h3) dX3_showsLike_17 ?_
  obtain ⟨y18, hy18, hm⟩ := bn hm
  refine cVRi (As := [.int (v 15 ((x1).toNatClampNeg))]) (rest := []) X hP0 hl2.1 (c_X3_top l D q a v (v 15 ((x1).toNatClampNeg)) y18 hy18) [0, 1, 2, 3, 4, 5, 6, 7, 8, 9, 10, 11] rfl 0 rfl rfl rfl k_526 mX3_top ⟨rfl, rfl⟩ ⟨Nat.le_of_ble_eq_true rfl, Nat.le_of_ble_eq_true rfl⟩ rfl rfl (Nat.le_of_ble_eq_true rfl) dX3_showsLike_18 ⟨Nat.zero_le _, Nat.zero_le _⟩ ?_
  refine lv_istore_n (lv' := [(3, .int y18), (2, .int y7), (0, .ref (a 99)), (1, .int x1)]) hx hb dX3_showsLike_21 rfl hl2 (by decide) rfl (fun ls4 hl4 => ?_)
  clear hl2
  refine lv_iload_n hx hb dX3_showsLike_22 rfl (lv_at hl4 1 rfl) ?_
  refine lv_bipush (v := (-4 : Int32)) hx hb dX3_showsLike_23 (by decide) ?_
  refine lv_icmp_eq (tgt := 47) hx hb dX3_showsLike_25 (by decide) (fun c25 => ?_) (fun c25 => ?_)
  · replace hm := tp hm c25
    refine lv_iconst (v := (0 : Int32)) hx hb dX3_showsLike_47 (by decide) ?_
    exact eRz  X hr hlocks rfl hm dX3_showsLike_48
  · replace hm := tn hm c25
    refine lv_iload_n hx hb dX3_showsLike_28 rfl (lv_at hl4 0 rfl) ?_
    refine lv_bipush (v := (-4 : Int32)) hx hb dX3_showsLike_29 (by decide) ?_
    refine lv_icmp_eq (tgt := 47) hx hb dX3_showsLike_31 (by decide) (fun c31 => ?_) (fun c31 => ?_)
    · replace hm := tp hm c31
      refine lv_iconst (v := (0 : Int32)) hx hb dX3_showsLike_47 (by decide) ?_
      exact eRz  X hr hlocks rfl hm dX3_showsLike_48
    · replace hm := tn hm c31
      refine lv_aload_n hx hb dX3_showsLike_34 rfl (lv_at hl4 2 rfl) ?_
      refine lv_iload_n hx hb dX3_showsLike_35 rfl (lv_at hl4 1 rfl) ?_
      refine lv_iload_n hx hb dX3_showsLike_36 rfl (lv_at hl4 0 rfl) ?_
      obtain ⟨y37, hy37, hm⟩ := bn hm
      refine cVRi (As := [.int y7, .int y18]) (rest := []) X hP0 hl4.1 (c_X3_areLike l D q a v y7 y18 y37 hy37) [0, 1, 2, 3, 4, 5, 6, 7, 8, 9, 10, 11] rfl 0 rfl rfl rfl k_560 mX3_areLike ⟨rfl, rfl⟩ ⟨Nat.le_of_ble_eq_true rfl, Nat.le_of_ble_eq_true rfl⟩ rfl rfl (Nat.le_of_ble_eq_true rfl) dX3_showsLike_37 ⟨Nat.zero_le _, Nat.zero_le _⟩ ?_
      refine lv_if_eq (tgt := 47) hx hb dX3_showsLike_40 (by decide) (fun c40 => ?_) (fun c40 => ?_)
      · replace hm := tp hm c40
        refine lv_iconst (v := (0 : Int32)) hx hb dX3_showsLike_47 (by decide) ?_
        exact eRz  X hr hlocks rfl hm dX3_showsLike_48
      · replace hm := tn hm c40
        refine lv_iconst (v := (1 : Int32)) hx hb dX3_showsLike_43 (by decide) ?_
        refine lv_goto (tgt := 48) hx hb dX3_showsLike_44 (by decide) ?_
        exact eRz  X hr hlocks rfl hm dX3_showsLike_48
noncomputable def m_X3_likeBonds_K4 (z4 : Int32 × Int32) : Option (Int32) :=
  some z4.1
noncomputable def m_X3_likeBonds_L4 (v : SV) (z4 : Int32 × Int32) : Option ((Int32 × Int32) ⊕ (Int32 × Int32)) :=
  (if (v 0 2) ≤ z4.2 then some (.inr (z4.1, z4.2)) else (m_X3_showsLike v z4.2).bind (fun y14 => (if y14 = 0 then some (.inl (z4.1, (z4.2 + (1 : Int32)))) else some (.inl ((z4.1 + (1 : Int32)), (z4.2 + (1 : Int32)))))))
noncomputable def m_X3_likeBonds (v : SV) : Option (Int32) :=
  (lpC (m_X3_likeBonds_L4 v) ((0 : Int32), (0 : Int32))).bind (m_X3_likeBonds_K4)
set_option maxHeartbeats 4000000 in
set_option maxRecDepth 100000 in
theorem c_X3_likeBonds (l : Launch) (D : va_G) (q : Nat → ClassId) (a : Nat → Nat) (v : SV) (res : Int32) (hm : m_X3_likeBonds v = some res) : Met l yX3_likeBonds (mw yX3_likeBonds cX3_likeBonds 3 (some .int)) ({ frames := 4, cells := 0, slots := 0, locals := 89 } : Room) (pcR D q (wX3 q a v) [.ref (a 99)]) (vp_Si (fun x => x = res)) 0 0 (fun _ => False) := by
  refine Met.ofW (cc := cX3_likeBonds) (maxL := 3) (ret := (some .int)) (by decide) rfl ?_
  intro p e s m args below meth c s₁ B hml hv
  obtain ⟨rfl, hP0, hK⟩ := hv
  have hx := B.exec
  have hb := B.bytes
  have hr := B.returns
  have hW := mw_ws (atoms_spec (ws := mw yX3_likeBonds cX3_likeBonds 3 (some .int)) B.pre)
  have hown : s.vm.findClass RX3 = some m.cls := findClass_of_methodNamed B.named
  have hlocks := B.notSynchronized
  have X : Cx p s m [.ref (a 99)].toArray c cX3_likeBonds 3 RX3 D q := ⟨hx, hb, hml, hown, hW, hK⟩
  have hl0 := lv_entry ([.ref (a 99)]) (n := 3) (Nat.le_of_ble_eq_true rfl)
  rw [lg_entry_eq]
  generalize (lg_sl ([.ref (a 99)]) ++ List.replicate (3 - (lg_sl ([.ref (a 99)])).length) Slot.unset).toArray = ls0 at hl0 ⊢
  have hl0 : lv_has ls0 3 [(0, .ref (a 99))] := hl0
  unfold m_X3_likeBonds at hm
  refine lv_iconst (v := (0 : Int32)) hx hb dX3_likeBonds_0 (by decide) ?_
  refine lv_istore_n (lv' := [(1, .int (0 : Int32)), (0, .ref (a 99))]) hx hb dX3_likeBonds_1 rfl hl0 (by decide) rfl (fun ls1 hl1 => ?_)
  clear hl0
  refine lv_iconst (v := (0 : Int32)) hx hb dX3_likeBonds_2 (by decide) ?_
  refine lv_istore_n (lv' := [(2, .int (0 : Int32)), (1, .int (0 : Int32)), (0, .ref (a 99))]) hx hb dX3_likeBonds_3 rfl hl1 (by decide) rfl (fun ls2 hl2 => ?_)
  clear hl1
  obtain ⟨r4, hr4, hm⟩ := bn hm
  obtain ⟨n4, hn4⟩ := lpC_ex hr4
  have hE4 : ∀ z4 : Int32 × Int32, m_X3_likeBonds_K4 z4 = some res → ∀ ls : Array Slot, lv_has ls 3 [(1, .int z4.1)] → W p l e ((headSpec (mw yX3_likeBonds cX3_likeBonds 3 (some .int)) ({ frames := 4, cells := 0, slots := 0, locals := 89 } : Room)).room) s m [.ref (a 99)].toArray below meth c s.heap [] 0 0 (MQ below (vp_Si (fun x => x = res)) [.ref (a 99)].toArray s 0 0 (fun _ => False)) (F0 m 29 ls []) := by
    intro z4 hm ls4 hl4
    unfold m_X3_likeBonds_K4 at hm
    refine lv_iload_n hx hb dX3_likeBonds_29 rfl (lv_at hl4 0 rfl) ?_
    exact eRi  X hr hlocks hm dX3_likeBonds_30
  have hL4 : ∀ (n : Nat) (z4 : Int32 × Int32) (ρ4 : Int32 × Int32), lpO (m_X3_likeBonds_L4 v) n z4 = some ρ4 → (m_X3_likeBonds_K4) ρ4 = some res → ∀ ls : Array Slot, lv_has ls 3 [(0, .ref (a 99)), (1, .int z4.1), (2, .int z4.2)] → W p l e ((headSpec (mw yX3_likeBonds cX3_likeBonds 3 (some .int)) ({ frames := 4, cells := 0, slots := 0, locals := 89 } : Room)).room) s m [.ref (a 99)].toArray below meth c s.heap [] 0 0 (MQ below (vp_Si (fun x => x = res)) [.ref (a 99)].toArray s 0 0 (fun _ => False)) (F0 m 4 ls []) := by
    intro n
    induction n with
    | zero => intro _ _ h; cases h
    | succ n ih4 =>
      intro z4 ρ4 hz4 hK4 ls3 hl3
      obtain ⟨t4, hm, hz4⟩ := bn hz4
      unfold m_X3_likeBonds_L4 at hm
      refine lv_iload_n hx hb dX3_likeBonds_4 rfl (lv_at hl3 2 rfl) ?_
      refine lv_aload_n hx hb dX3_likeBonds_5 rfl (lv_at hl3 0 rfl) ?_
      refine va_get (D := D) (ci := 3) (v := .int (v 0 2)) (C := RX3) (T := TX3) (N := 17) hx hb hW iX3 hown hK hP0 0 rfl rfl 2 (by decide) (hW _ k_90) (fun _ h => h) rfl dX3_likeBonds_6 ?_
      refine lv_icmp_ge (tgt := 29) hx hb dX3_likeBonds_9 (by decide) (fun c9 => ?_) (fun c9 => ?_)
      · replace hm := tp hm c9
        cases hm
        cases hz4
        exact hE4 (z4.1, z4.2) hK4 _ (lv_sub hl3 [1] rfl)
      · replace hm := tn hm c9
        refine lv_aload_n hx hb dX3_likeBonds_12 rfl (lv_at hl3 0 rfl) ?_
        refine lv_iload_n hx hb dX3_likeBonds_13 rfl (lv_at hl3 2 rfl) ?_
        obtain ⟨y14, hy14, hm⟩ := bn hm
        refine cVRi (As := [.int z4.2]) (rest := []) X hP0 hl3.1 (c_X3_showsLike l D q a v z4.2 y14 hy14) [0, 1, 2, 3, 4, 5, 6, 7, 8, 9, 10, 11] rfl 0 rfl rfl rfl k_723 mX3_showsLike ⟨rfl, rfl⟩ ⟨Nat.le_of_ble_eq_true rfl, Nat.le_of_ble_eq_true rfl⟩ rfl rfl (Nat.le_of_ble_eq_true rfl) dX3_likeBonds_14 ⟨Nat.zero_le _, Nat.zero_le _⟩ ?_
        refine lv_if_eq (tgt := 23) hx hb dX3_likeBonds_17 (by decide) (fun c17 => ?_) (fun c17 => ?_)
        · replace hm := tp hm c17
          refine lv_iinc (v := (z4.2 + (1 : Int32))) (lv' := [(2, .int (z4.2 + (1 : Int32))), (0, .ref (a 99)), (1, .int z4.1)]) hx hb dX3_likeBonds_23 hl3 (k := 2) rfl rfl (by decide) rfl (fun ls5 hl5 => ?_)
          clear hl3
          refine lv_goto (tgt := 4) hx hb dX3_likeBonds_26 (by decide) ?_
          cases hm
          exact ih4 (z4.1, (z4.2 + (1 : Int32))) ρ4 hz4 hK4 _ (lv_sub hl5 [1, 2, 0] rfl)
        · replace hm := tn hm c17
          refine lv_iinc (v := (z4.1 + (1 : Int32))) (lv' := [(1, .int (z4.1 + (1 : Int32))), (0, .ref (a 99)), (2, .int z4.2)]) hx hb dX3_likeBonds_20 hl3 (k := 1) rfl rfl (by decide) rfl (fun ls6 hl6 => ?_)
          clear hl3
          refine lv_iinc (v := (z4.2 + (1 : Int32))) (lv' := [(2, .int (z4.2 + (1 : Int32))), (1, .int (z4.1 + (1 : Int32))), (0, .ref (a 99))]) hx hb dX3_likeBonds_23 hl6 (k := 2) rfl rfl (by decide) rfl (fun ls7 hl7 => ?_)
          clear hl6
          refine lv_goto (tgt := 4) hx hb dX3_likeBonds_26 (by decide) ?_
          cases hm
          exact ih4 ((z4.1 + (1 : Int32)), (z4.2 + (1 : Int32))) ρ4 hz4 hK4 _ (lv_sub hl7 [2, 1, 0] rfl)
  exact hL4 n4 ((0 : Int32), (0 : Int32)) r4 hn4 hm _ (lv_sub hl2 [2, 1, 0] rfl)
noncomputable def m_X3_isAmong (x1 : Int32) (x2 : Int32) : Option (Int32) :=
  (if x1 = (-4 : Int32) then some (0 : Int32) else (if ((x2 >>> (x1 &&& 31)) &&& (1 : Int32)) = (1 : Int32) then some (1 : Int32) else some (0 : Int32)))
set_option maxHeartbeats 4000000 in
set_option maxRecDepth 100000 in
theorem c_X3_isAmong (l : Launch) (D : va_G) (q : Nat → ClassId) (x1 : Int32) (x2 : Int32) (res : Int32) (hm : m_X3_isAmong x1 x2 = some res) : Met l yX3_isAmong (mw yX3_isAmong cX3_isAmong 2 (some .boolean)) ({ frames := 0, cells := 0, slots := 0, locals := 0 } : Room) (pcR D q ([]) [.int x1, .int x2]) (vp_Si (fun x => x = res)) 0 0 (fun _ => False) := by
  refine Met.ofW (cc := cX3_isAmong) (maxL := 2) (ret := (some .boolean)) (by decide) rfl ?_
  intro p e s m args below meth c s₁ B hml hv
  obtain ⟨rfl, hP0, hK⟩ := hv
  have hx := B.exec
  have hb := B.bytes
  have hr := B.returns
  have hW := mw_ws (atoms_spec (ws := mw yX3_isAmong cX3_isAmong 2 (some .boolean)) B.pre)
  have hown : s.vm.findClass RX3 = some m.cls := findClass_of_methodNamed B.named
  have hlocks := B.notSynchronized
  have X : Cx p s m [.int x1, .int x2].toArray c cX3_isAmong 2 RX3 D q := ⟨hx, hb, hml, hown, hW, hK⟩
  have hl0 := lv_entry ([.int x1, .int x2]) (n := 2) (Nat.le_of_ble_eq_true rfl)
  rw [lg_entry_eq]
  generalize (lg_sl ([.int x1, .int x2]) ++ List.replicate (2 - (lg_sl ([.int x1, .int x2])).length) Slot.unset).toArray = ls0 at hl0 ⊢
  have hl0 : lv_has ls0 2 [(0, .int x1), (1, .int x2)] := hl0
  unfold m_X3_isAmong at hm
  refine lv_iload_n hx hb dX3_isAmong_0 rfl (lv_at hl0 0 rfl) ?_
  refine lv_bipush (v := (-4 : Int32)) hx hb dX3_isAmong_1 (by decide) ?_
  refine lv_icmp_eq (tgt := 19) hx hb dX3_isAmong_3 (by decide) (fun c3 => ?_) (fun c3 => ?_)
  · replace hm := tp hm c3
    refine lv_iconst (v := (0 : Int32)) hx hb dX3_isAmong_19 (by decide) ?_
    exact eRz  X hr hlocks rfl hm dX3_isAmong_20
  · replace hm := tn hm c3
    refine lv_iload_n hx hb dX3_isAmong_6 rfl (lv_at hl0 1 rfl) ?_
    refine lv_iload_n hx hb dX3_isAmong_7 rfl (lv_at hl0 0 rfl) ?_
    refine lv_ishr hx hb dX3_isAmong_8 ?_
    refine lv_iconst (v := (1 : Int32)) hx hb dX3_isAmong_9 (by decide) ?_
    refine lv_iand hx hb dX3_isAmong_10 ?_
    refine lv_iconst (v := (1 : Int32)) hx hb dX3_isAmong_11 (by decide) ?_
    refine lv_icmp_ne (tgt := 19) hx hb dX3_isAmong_12 (by decide) (fun c12 => ?_) (fun c12 => ?_)
    · replace hm := tn hm c12
      refine lv_iconst (v := (0 : Int32)) hx hb dX3_isAmong_19 (by decide) ?_
      exact eRz  X hr hlocks rfl hm dX3_isAmong_20
    · replace hm := tp hm c12
      refine lv_iconst (v := (1 : Int32)) hx hb dX3_isAmong_15 (by decide) ?_
      refine lv_goto (tgt := 20) hx hb dX3_isAmong_16 (by decide) ?_
      exact eRz  X hr hlocks rfl hm dX3_isAmong_20
noncomputable def m_X3_valueOf_K41 (z41 : Int32 × Int32) : Option (Int32) :=
  some z41.1
noncomputable def m_X3_valueOf_J88 (v : SV) (z41 : Int32 × Int32) (z88 : Int32) : Option ((Int32 × Int32) ⊕ (Int32 × Int32)) :=
  (if z88 = 0 then some (.inl (z41.1, (z41.2 + (1 : Int32)))) else (m_X3_showsLike v z41.2).bind (fun y97 => (if y97 = 0 then some (.inl (z41.1, (z41.2 + (1 : Int32)))) else ck (inB z41.2 5) (ck (inB (v 14 ((z41.2).toNatClampNeg)) 6) (ck (inB z41.2 5) (ck (inB (v 15 ((z41.2).toNatClampNeg)) 6) (some (.inl ((z41.1 + (if (v 6 (((v 15 ((z41.2).toNatClampNeg))).toNatClampNeg)) < (v 6 (((v 14 ((z41.2).toNatClampNeg))).toNatClampNeg)) then (v 6 (((v 15 ((z41.2).toNatClampNeg))).toNatClampNeg)) else (v 6 (((v 14 ((z41.2).toNatClampNeg))).toNatClampNeg)))), (z41.2 + (1 : Int32)))))))))))
noncomputable def m_X3_valueOf_J87 (v : SV) (z41 : Int32 × Int32) (z87 : Unit) : Option ((Int32 × Int32) ⊕ (Int32 × Int32)) :=
  m_X3_valueOf_J88 v z41 (0 : Int32)
noncomputable def m_X3_valueOf_L41 (v : SV) (x1 : Int32) (z41 : Int32 × Int32) : Option ((Int32 × Int32) ⊕ (Int32 × Int32)) :=
  (if (v 0 2) ≤ z41.2 then some (.inr (z41.1, z41.2)) else ck (inB z41.2 5) ((m_X3_top v (v 14 ((z41.2).toNatClampNeg))).bind (fun y56 => (m_X3_isAmong y56 x1).bind (fun y60 => (if y60 = 0 then m_X3_valueOf_J87 v z41 () else ck (inB z41.2 5) ((m_X3_top v (v 15 ((z41.2).toNatClampNeg))).bind (fun y73 => (m_X3_isAmong y73 x1).bind (fun y77 => (if y77 = 0 then m_X3_valueOf_J87 v z41 () else m_X3_valueOf_J88 v z41 (1 : Int32))))))))))
noncomputable def m_X3_valueOf_K4 (v : SV) (x1 : Int32) (z4 : Int32 × Int32) : Option (Int32) :=
  (lpC (m_X3_valueOf_L41 v x1) (z4.1, (0 : Int32))).bind (m_X3_valueOf_K41)
noncomputable def m_X3_valueOf_L4 (v : SV) (x1 : Int32) (z4 : Int32 × Int32) : Option ((Int32 × Int32) ⊕ (Int32 × Int32)) :=
  (if (v 0 0) ≤ z4.2 then some (.inr (z4.1, z4.2)) else (m_X3_top v z4.2).bind (fun y14 => (m_X3_isAmong y14 x1).bind (fun y18 => (if y18 = 0 then some (.inl (z4.1, (z4.2 + (1 : Int32)))) else ck (inB z4.2 6) (some (.inl ((z4.1 + (v 6 ((z4.2).toNatClampNeg))), (z4.2 + (1 : Int32)))))))))
noncomputable def m_X3_valueOf (v : SV) (x1 : Int32) : Option (Int32) :=
  (lpC (m_X3_valueOf_L4 v x1) ((0 : Int32), (0 : Int32))).bind (m_X3_valueOf_K4 v x1)
set_option maxHeartbeats 4000000 in
set_option maxRecDepth 100000 in
theorem c_X3_valueOf (l : Launch) (D : va_G) (q : Nat → ClassId) (a : Nat → Nat) (v : SV) (x1 : Int32) (res : Int32) (hm : m_X3_valueOf v x1 = some res) : Met l yX3_valueOf (mw yX3_valueOf cX3_valueOf 5 (some .int)) ({ frames := 4, cells := 0, slots := 0, locals := 89 } : Room) (pcR D q (wX3 q a v) [.ref (a 99), .int x1]) (vp_Si (fun x => x = res)) 0 0 (fun _ => False) := by
  refine Met.ofW (cc := cX3_valueOf) (maxL := 5) (ret := (some .int)) (by decide) rfl ?_
  intro p e s m args below meth c s₁ B hml hv
  obtain ⟨rfl, hP0, hK⟩ := hv
  have hx := B.exec
  have hb := B.bytes
  have hr := B.returns
  have hW := mw_ws (atoms_spec (ws := mw yX3_valueOf cX3_valueOf 5 (some .int)) B.pre)
  have hown : s.vm.findClass RX3 = some m.cls := findClass_of_methodNamed B.named
  have hlocks := B.notSynchronized
  have X : Cx p s m [.ref (a 99), .int x1].toArray c cX3_valueOf 5 RX3 D q := ⟨hx, hb, hml, hown, hW, hK⟩
  have hl0 := lv_entry ([.ref (a 99), .int x1]) (n := 5) (Nat.le_of_ble_eq_true rfl)
  rw [lg_entry_eq]
  generalize (lg_sl ([.ref (a 99), .int x1]) ++ List.replicate (5 - (lg_sl ([.ref (a 99), .int x1])).length) Slot.unset).toArray = ls0 at hl0 ⊢
  have hl0 : lv_has ls0 5 [(0, .ref (a 99)), (1, .int x1)] := hl0
  unfold m_X3_valueOf at hm
  refine lv_iconst (v := (0 : Int32)) hx hb dX3_valueOf_0 (by decide) ?_
  refine lv_istore_n (lv' := [(2, .int (0 : Int32)), (0, .ref (a 99)), (1, .int x1)]) hx hb dX3_valueOf_1 rfl hl0 (by decide) rfl (fun ls1 hl1 => ?_)
  clear hl0
  refine lv_iconst (v := (0 : Int32)) hx hb dX3_valueOf_2 (by decide) ?_
  refine lv_istore_n (lv' := [(3, .int (0 : Int32)), (2, .int (0 : Int32)), (0, .ref (a 99)), (1, .int x1)]) hx hb dX3_valueOf_3 rfl hl1 (by decide) rfl (fun ls2 hl2 => ?_)
  clear hl1
  obtain ⟨r4, hr4, hm⟩ := bn hm
  obtain ⟨n4, hn4⟩ := lpC_ex hr4
  have hE4 : ∀ z4 : Int32 × Int32, m_X3_valueOf_K4 v x1 z4 = some res → ∀ ls : Array Slot, lv_has ls 5 [(0, .ref (a 99)), (1, .int x1), (2, .int z4.1)] → W p l e ((headSpec (mw yX3_valueOf cX3_valueOf 5 (some .int)) ({ frames := 4, cells := 0, slots := 0, locals := 89 } : Room)).room) s m [.ref (a 99), .int x1].toArray below meth c s.heap [] 0 0 (MQ below (vp_Si (fun x => x = res)) [.ref (a 99), .int x1].toArray s 0 0 (fun _ => False)) (F0 m 39 ls []) := by
    intro z4 hm ls4 hl4
    unfold m_X3_valueOf_K4 at hm
    refine lv_iconst (v := (0 : Int32)) hx hb dX3_valueOf_39 (by decide) ?_
    refine lv_istore_n (lv' := [(3, .int (0 : Int32)), (0, .ref (a 99)), (1, .int x1), (2, .int z4.1)]) hx hb dX3_valueOf_40 rfl hl4 (by decide) rfl (fun ls5 hl5 => ?_)
    clear hl4
    obtain ⟨r41, hr41, hm⟩ := bn hm
    obtain ⟨n41, hn41⟩ := lpC_ex hr41
    have hE41 : ∀ z41 : Int32 × Int32, m_X3_valueOf_K41 z41 = some res → ∀ ls : Array Slot, lv_has ls 5 [(2, .int z41.1)] → W p l e ((headSpec (mw yX3_valueOf cX3_valueOf 5 (some .int)) ({ frames := 4, cells := 0, slots := 0, locals := 89 } : Room)).room) s m [.ref (a 99), .int x1].toArray below meth c s.heap [] 0 0 (MQ below (vp_Si (fun x => x = res)) [.ref (a 99), .int x1].toArray s 0 0 (fun _ => False)) (F0 m 137 ls []) := by
      intro z41 hm ls7 hl7
      unfold m_X3_valueOf_K41 at hm
      refine lv_iload_n hx hb dX3_valueOf_137 rfl (lv_at hl7 0 rfl) ?_
      exact eRi  X hr hlocks hm dX3_valueOf_138
    have hL41 : ∀ (n : Nat) (z41 : Int32 × Int32) (ρ41 : Int32 × Int32), lpO (m_X3_valueOf_L41 v x1) n z41 = some ρ41 → (m_X3_valueOf_K41) ρ41 = some res → ∀ ls : Array Slot, lv_has ls 5 [(0, .ref (a 99)), (1, .int x1), (2, .int z41.1), (3, .int z41.2)] → W p l e ((headSpec (mw yX3_valueOf cX3_valueOf 5 (some .int)) ({ frames := 4, cells := 0, slots := 0, locals := 89 } : Room)).room) s m [.ref (a 99), .int x1].toArray below meth c s.heap [] 0 0 (MQ below (vp_Si (fun x => x = res)) [.ref (a 99), .int x1].toArray s 0 0 (fun _ => False)) (F0 m 41 ls []) := by
      intro n
      induction n with
      | zero => intro _ _ h; cases h
      | succ n ih41 =>
        intro z41 ρ41 hz41 hK41 ls6 hl6
        obtain ⟨t41, hm, hz41⟩ := bn hz41
        unfold m_X3_valueOf_L41 at hm
        refine lv_iload_n hx hb dX3_valueOf_41 rfl (lv_at hl6 3 rfl) ?_
        refine lv_aload_n hx hb dX3_valueOf_42 rfl (lv_at hl6 0 rfl) ?_
        refine va_get (D := D) (ci := 3) (v := .int (v 0 2)) (C := RX3) (T := TX3) (N := 17) hx hb hW iX3 hown hK hP0 0 rfl rfl 2 (by decide) (hW _ k_90) (fun _ h => h) rfl dX3_valueOf_43 ?_
        refine lv_icmp_ge (tgt := 137) hx hb dX3_valueOf_46 (by decide) (fun c46 => ?_) (fun c46 => ?_)
        · replace hm := tp hm c46
          cases hm
          cases hz41
          exact hE41 (z41.1, z41.2) hK41 _ (lv_sub hl6 [2] rfl)
        · replace hm := tn hm c46
          refine lv_aload_n hx hb dX3_valueOf_49 rfl (lv_at hl6 0 rfl) ?_
          refine lv_aload_n hx hb dX3_valueOf_50 rfl (lv_at hl6 0 rfl) ?_
          refine va_get (D := D) (ci := 3) (v := .ref (a 14)) (C := RX3) (T := TX3) (N := 17) hx hb hW iX3 hown hK hP0 0 rfl rfl 14 (by decide) (hW _ k_126) (fun _ h => h) rfl dX3_valueOf_51 ?_
          refine lv_iload_n hx hb dX3_valueOf_54 rfl (lv_at hl6 3 rfl) ?_
          obtain ⟨h8, hm⟩ := ckd hm
          refine va_iald (f := (v 14)) hx hb hK hP0 9 0 rfl rfl (inB_vp h8) dX3_valueOf_55 ?_
          obtain ⟨y56, hy56, hm⟩ := bn hm
          refine cVRi (As := [.int (v 14 ((z41.2).toNatClampNeg))]) (rest := []) X hP0 hl6.1 (c_X3_top l D q a v (v 14 ((z41.2).toNatClampNeg)) y56 hy56) [0, 1, 2, 3, 4, 5, 6, 7, 8, 9, 10, 11] rfl 0 rfl rfl rfl k_526 mX3_top ⟨rfl, rfl⟩ ⟨Nat.le_of_ble_eq_true rfl, Nat.le_of_ble_eq_true rfl⟩ rfl rfl (Nat.le_of_ble_eq_true rfl) dX3_valueOf_56 ⟨Nat.zero_le _, Nat.zero_le _⟩ ?_
          refine lv_iload_n hx hb dX3_valueOf_59 rfl (lv_at hl6 1 rfl) ?_
          obtain ⟨y60, hy60, hm⟩ := bn hm
          refine cSRi (As := [.int y56, .int x1]) (rest := []) X hP0 hl6.1 (c_X3_isAmong l D q y56 x1 y60 hy60) [] rfl k_733 mX3_isAmong ⟨rfl, rfl⟩ ⟨Nat.le_of_ble_eq_true rfl, Nat.le_of_ble_eq_true rfl⟩ rfl rfl (Nat.le_of_ble_eq_true rfl) dX3_valueOf_60 ⟨Nat.zero_le _, Nat.zero_le _⟩ ?_
          have hJ88 : ∀ z88 : Int32, m_X3_valueOf_J88 v z41 z88 = some t41 → ∀ ls : Array Slot, lv_has ls 5 [(0, .ref (a 99)), (1, .int x1), (2, .int z41.1), (3, .int z41.2)] → W p l e ((headSpec (mw yX3_valueOf cX3_valueOf 5 (some .int)) ({ frames := 4, cells := 0, slots := 0, locals := 89 } : Room)).room) s m [.ref (a 99), .int x1].toArray below meth c s.heap [] 0 0 (MQ below (vp_Si (fun x => x = res)) [.ref (a 99), .int x1].toArray s 0 0 (fun _ => False)) (F0 m 88 ls [.int z88]) := by
            intro z88 hm ls9 hl9
            unfold m_X3_valueOf_J88 at hm
            refine lv_istore (lv' := [(4, .int z88), (0, .ref (a 99)), (1, .int x1), (2, .int z41.1), (3, .int z41.2)]) hx hb dX3_valueOf_88 hl9 (by decide) rfl (fun ls10 hl10 => ?_)
            clear hl9
            refine lv_iload hx hb dX3_valueOf_90 (lv_at hl10 0 rfl) ?_
            refine lv_if_eq (tgt := 131) hx hb dX3_valueOf_92 (by decide) (fun c92 => ?_) (fun c92 => ?_)
            · replace hm := tp hm c92
              refine lv_iinc (v := (z41.2 + (1 : Int32))) (lv' := [(3, .int (z41.2 + (1 : Int32))), (4, .int z88), (0, .ref (a 99)), (1, .int x1), (2, .int z41.1)]) hx hb dX3_valueOf_131 hl10 (k := 4) rfl rfl (by decide) rfl (fun ls11 hl11 => ?_)
              clear hl10
              refine lv_goto (tgt := 41) hx hb dX3_valueOf_134 (by decide) ?_
              cases hm
              exact ih41 (z41.1, (z41.2 + (1 : Int32))) ρ41 hz41 hK41 _ (lv_sub hl11 [2, 3, 4, 0] rfl)
            · replace hm := tn hm c92
              refine lv_aload_n hx hb dX3_valueOf_95 rfl (lv_at hl10 1 rfl) ?_
              refine lv_iload_n hx hb dX3_valueOf_96 rfl (lv_at hl10 4 rfl) ?_
              obtain ⟨y97, hy97, hm⟩ := bn hm
              refine cVRi (As := [.int z41.2]) (rest := []) X hP0 hl10.1 (c_X3_showsLike l D q a v z41.2 y97 hy97) [0, 1, 2, 3, 4, 5, 6, 7, 8, 9, 10, 11] rfl 0 rfl rfl rfl k_723 mX3_showsLike ⟨rfl, rfl⟩ ⟨Nat.le_of_ble_eq_true rfl, Nat.le_of_ble_eq_true rfl⟩ rfl rfl (Nat.le_of_ble_eq_true rfl) dX3_valueOf_97 ⟨Nat.zero_le _, Nat.zero_le _⟩ ?_
              refine lv_if_eq (tgt := 131) hx hb dX3_valueOf_100 (by decide) (fun c100 => ?_) (fun c100 => ?_)
              · replace hm := tp hm c100
                refine lv_iinc (v := (z41.2 + (1 : Int32))) (lv' := [(3, .int (z41.2 + (1 : Int32))), (4, .int z88), (0, .ref (a 99)), (1, .int x1), (2, .int z41.1)]) hx hb dX3_valueOf_131 hl10 (k := 4) rfl rfl (by decide) rfl (fun ls12 hl12 => ?_)
                clear hl10
                refine lv_goto (tgt := 41) hx hb dX3_valueOf_134 (by decide) ?_
                cases hm
                exact ih41 (z41.1, (z41.2 + (1 : Int32))) ρ41 hz41 hK41 _ (lv_sub hl12 [2, 3, 4, 0] rfl)
              · replace hm := tn hm c100
                refine lv_iload_n hx hb dX3_valueOf_103 rfl (lv_at hl10 3 rfl) ?_
                refine lv_aload_n hx hb dX3_valueOf_104 rfl (lv_at hl10 1 rfl) ?_
                refine va_get (D := D) (ci := 3) (v := .ref (a 6)) (C := RX3) (T := TX3) (N := 17) hx hb hW iX3 hown hK hP0 0 rfl rfl 6 (by decide) (hW _ k_101) (fun _ h => h) rfl dX3_valueOf_105 ?_
                refine lv_aload_n hx hb dX3_valueOf_108 rfl (lv_at hl10 1 rfl) ?_
                refine va_get (D := D) (ci := 3) (v := .ref (a 14)) (C := RX3) (T := TX3) (N := 17) hx hb hW iX3 hown hK hP0 0 rfl rfl 14 (by decide) (hW _ k_126) (fun _ h => h) rfl dX3_valueOf_109 ?_
                refine lv_iload_n hx hb dX3_valueOf_112 rfl (lv_at hl10 4 rfl) ?_
                obtain ⟨h13, hm⟩ := ckd hm
                refine va_iald (f := (v 14)) hx hb hK hP0 9 0 rfl rfl (inB_vp h13) dX3_valueOf_113 ?_
                obtain ⟨h14, hm⟩ := ckd hm
                refine va_iald (f := (v 6)) hx hb hK hP0 1 0 rfl rfl (inB_vp h14) dX3_valueOf_114 ?_
                refine lv_aload_n hx hb dX3_valueOf_115 rfl (lv_at hl10 1 rfl) ?_
                refine va_get (D := D) (ci := 3) (v := .ref (a 6)) (C := RX3) (T := TX3) (N := 17) hx hb hW iX3 hown hK hP0 0 rfl rfl 6 (by decide) (hW _ k_101) (fun _ h => h) rfl dX3_valueOf_116 ?_
                refine lv_aload_n hx hb dX3_valueOf_119 rfl (lv_at hl10 1 rfl) ?_
                refine va_get (D := D) (ci := 3) (v := .ref (a 15)) (C := RX3) (T := TX3) (N := 17) hx hb hW iX3 hown hK hP0 0 rfl rfl 15 (by decide) (hW _ k_130) (fun _ h => h) rfl dX3_valueOf_120 ?_
                refine lv_iload_n hx hb dX3_valueOf_123 rfl (lv_at hl10 4 rfl) ?_
                obtain ⟨h15, hm⟩ := ckd hm
                refine va_iald (f := (v 15)) hx hb hK hP0 10 0 rfl rfl (inB_vp h15) dX3_valueOf_124 ?_
                obtain ⟨h16, hm⟩ := ckd hm
                refine va_iald (f := (v 6)) hx hb hK hP0 1 0 rfl rfl (inB_vp h16) dX3_valueOf_125 ?_
                refine va_mmin hx hb (by rw [X.2.2.1]; exact hl10.1.symm) hown (hW _ k_511) (hW _ k_512) (hW _ k_52) (hW _ k_513) (by exact Nat.le_of_ble_eq_true rfl) (by exact Nat.le_of_ble_eq_true rfl) (Nat.zero_le _) (Nat.zero_le _) dX3_valueOf_126 ?_
                refine lv_iadd hx hb dX3_valueOf_129 ?_
                refine lv_istore_n (lv' := [(2, .int (z41.1 + (if (v 6 (((v 15 ((z41.2).toNatClampNeg))).toNatClampNeg)) < (v 6 (((v 14 ((z41.2).toNatClampNeg))).toNatClampNeg)) then (v 6 (((v 15 ((z41.2).toNatClampNeg))).toNatClampNeg)) else (v 6 (((v 14 ((z41.2).toNatClampNeg))).toNatClampNeg))))), (4, .int z88), (0, .ref (a 99)), (1, .int x1), (3, .int z41.2)]) hx hb dX3_valueOf_130 rfl hl10 (by decide) rfl (fun ls17 hl17 => ?_)
                clear hl10
                refine lv_iinc (v := (z41.2 + (1 : Int32))) (lv' := [(3, .int (z41.2 + (1 : Int32))), (2, .int (z41.1 + (if (v 6 (((v 15 ((z41.2).toNatClampNeg))).toNatClampNeg)) < (v 6 (((v 14 ((z41.2).toNatClampNeg))).toNatClampNeg)) then (v 6 (((v 15 ((z41.2).toNatClampNeg))).toNatClampNeg)) else (v 6 (((v 14 ((z41.2).toNatClampNeg))).toNatClampNeg))))), (4, .int z88), (0, .ref (a 99)), (1, .int x1)]) hx hb dX3_valueOf_131 hl17 (k := 4) rfl rfl (by decide) rfl (fun ls18 hl18 => ?_)
                clear hl17
                refine lv_goto (tgt := 41) hx hb dX3_valueOf_134 (by decide) ?_
                cases hm
                exact ih41 ((z41.1 + (if (v 6 (((v 15 ((z41.2).toNatClampNeg))).toNatClampNeg)) < (v 6 (((v 14 ((z41.2).toNatClampNeg))).toNatClampNeg)) then (v 6 (((v 15 ((z41.2).toNatClampNeg))).toNatClampNeg)) else (v 6 (((v 14 ((z41.2).toNatClampNeg))).toNatClampNeg)))), (z41.2 + (1 : Int32))) ρ41 hz41 hK41 _ (lv_sub hl18 [3, 4, 1, 0] rfl)
          have hJ87 : ∀ z87 : Unit, m_X3_valueOf_J87 v z41 z87 = some t41 → ∀ ls : Array Slot, lv_has ls 5 [(0, .ref (a 99)), (1, .int x1), (2, .int z41.1), (3, .int z41.2)] → W p l e ((headSpec (mw yX3_valueOf cX3_valueOf 5 (some .int)) ({ frames := 4, cells := 0, slots := 0, locals := 89 } : Room)).room) s m [.ref (a 99), .int x1].toArray below meth c s.heap [] 0 0 (MQ below (vp_Si (fun x => x = res)) [.ref (a 99), .int x1].toArray s 0 0 (fun _ => False)) (F0 m 87 ls []) := by
            intro z87 hm ls19 hl19
            unfold m_X3_valueOf_J87 at hm
            refine lv_iconst (v := (0 : Int32)) hx hb dX3_valueOf_87 (by decide) ?_
            exact hJ88 (0 : Int32) hm _ (lv_sub hl19 [0, 1, 2, 3] rfl)
          refine lv_if_eq (tgt := 87) hx hb dX3_valueOf_63 (by decide) (fun c63 => ?_) (fun c63 => ?_)
          · replace hm := tp hm c63
            exact hJ87 () hm _ (lv_sub hl6 [0, 1, 2, 3] rfl)
          · replace hm := tn hm c63
            refine lv_aload_n hx hb dX3_valueOf_66 rfl (lv_at hl6 0 rfl) ?_
            refine lv_aload_n hx hb dX3_valueOf_67 rfl (lv_at hl6 0 rfl) ?_
            refine va_get (D := D) (ci := 3) (v := .ref (a 15)) (C := RX3) (T := TX3) (N := 17) hx hb hW iX3 hown hK hP0 0 rfl rfl 15 (by decide) (hW _ k_130) (fun _ h => h) rfl dX3_valueOf_68 ?_
            refine lv_iload_n hx hb dX3_valueOf_71 rfl (lv_at hl6 3 rfl) ?_
            obtain ⟨h20, hm⟩ := ckd hm
            refine va_iald (f := (v 15)) hx hb hK hP0 10 0 rfl rfl (inB_vp h20) dX3_valueOf_72 ?_
            obtain ⟨y73, hy73, hm⟩ := bn hm
            refine cVRi (As := [.int (v 15 ((z41.2).toNatClampNeg))]) (rest := []) X hP0 hl6.1 (c_X3_top l D q a v (v 15 ((z41.2).toNatClampNeg)) y73 hy73) [0, 1, 2, 3, 4, 5, 6, 7, 8, 9, 10, 11] rfl 0 rfl rfl rfl k_526 mX3_top ⟨rfl, rfl⟩ ⟨Nat.le_of_ble_eq_true rfl, Nat.le_of_ble_eq_true rfl⟩ rfl rfl (Nat.le_of_ble_eq_true rfl) dX3_valueOf_73 ⟨Nat.zero_le _, Nat.zero_le _⟩ ?_
            refine lv_iload_n hx hb dX3_valueOf_76 rfl (lv_at hl6 1 rfl) ?_
            obtain ⟨y77, hy77, hm⟩ := bn hm
            refine cSRi (As := [.int y73, .int x1]) (rest := []) X hP0 hl6.1 (c_X3_isAmong l D q y73 x1 y77 hy77) [] rfl k_733 mX3_isAmong ⟨rfl, rfl⟩ ⟨Nat.le_of_ble_eq_true rfl, Nat.le_of_ble_eq_true rfl⟩ rfl rfl (Nat.le_of_ble_eq_true rfl) dX3_valueOf_77 ⟨Nat.zero_le _, Nat.zero_le _⟩ ?_
            refine lv_if_eq (tgt := 87) hx hb dX3_valueOf_80 (by decide) (fun c80 => ?_) (fun c80 => ?_)
            · replace hm := tp hm c80
              exact hJ87 () hm _ (lv_sub hl6 [0, 1, 2, 3] rfl)
            · replace hm := tn hm c80
              refine lv_iconst (v := (1 : Int32)) hx hb dX3_valueOf_83 (by decide) ?_
              refine lv_goto (tgt := 88) hx hb dX3_valueOf_84 (by decide) ?_
              exact hJ88 (1 : Int32) hm _ (lv_sub hl6 [0, 1, 2, 3] rfl)
    exact hL41 n41 (z4.1, (0 : Int32)) r41 hn41 hm _ (lv_sub hl5 [1, 2, 3, 0] rfl)
  have hL4 : ∀ (n : Nat) (z4 : Int32 × Int32) (ρ4 : Int32 × Int32), lpO (m_X3_valueOf_L4 v x1) n z4 = some ρ4 → (m_X3_valueOf_K4 v x1) ρ4 = some res → ∀ ls : Array Slot, lv_has ls 5 [(0, .ref (a 99)), (1, .int x1), (2, .int z4.1), (3, .int z4.2)] → W p l e ((headSpec (mw yX3_valueOf cX3_valueOf 5 (some .int)) ({ frames := 4, cells := 0, slots := 0, locals := 89 } : Room)).room) s m [.ref (a 99), .int x1].toArray below meth c s.heap [] 0 0 (MQ below (vp_Si (fun x => x = res)) [.ref (a 99), .int x1].toArray s 0 0 (fun _ => False)) (F0 m 4 ls []) := by
    intro n
    induction n with
    | zero => intro _ _ h; cases h
    | succ n ih4 =>
      intro z4 ρ4 hz4 hK4 ls3 hl3
      obtain ⟨t4, hm, hz4⟩ := bn hz4
      unfold m_X3_valueOf_L4 at hm
      refine lv_iload_n hx hb dX3_valueOf_4 rfl (lv_at hl3 3 rfl) ?_
      refine lv_aload_n hx hb dX3_valueOf_5 rfl (lv_at hl3 0 rfl) ?_
      refine va_get (D := D) (ci := 3) (v := .int (v 0 0)) (C := RX3) (T := TX3) (N := 17) hx hb hW iX3 hown hK hP0 0 rfl rfl 0 (by decide) (hW _ k_82) (fun _ h => h) rfl dX3_valueOf_6 ?_
      refine lv_icmp_ge (tgt := 39) hx hb dX3_valueOf_9 (by decide) (fun c9 => ?_) (fun c9 => ?_)
      · replace hm := tp hm c9
        cases hm
        cases hz4
        exact hE4 (z4.1, z4.2) hK4 _ (lv_sub hl3 [0, 1, 2] rfl)
      · replace hm := tn hm c9
        refine lv_aload_n hx hb dX3_valueOf_12 rfl (lv_at hl3 0 rfl) ?_
        refine lv_iload_n hx hb dX3_valueOf_13 rfl (lv_at hl3 3 rfl) ?_
        obtain ⟨y14, hy14, hm⟩ := bn hm
        refine cVRi (As := [.int z4.2]) (rest := []) X hP0 hl3.1 (c_X3_top l D q a v z4.2 y14 hy14) [0, 1, 2, 3, 4, 5, 6, 7, 8, 9, 10, 11] rfl 0 rfl rfl rfl k_526 mX3_top ⟨rfl, rfl⟩ ⟨Nat.le_of_ble_eq_true rfl, Nat.le_of_ble_eq_true rfl⟩ rfl rfl (Nat.le_of_ble_eq_true rfl) dX3_valueOf_14 ⟨Nat.zero_le _, Nat.zero_le _⟩ ?_
        refine lv_iload_n hx hb dX3_valueOf_17 rfl (lv_at hl3 1 rfl) ?_
        obtain ⟨y18, hy18, hm⟩ := bn hm
        refine cSRi (As := [.int y14, .int x1]) (rest := []) X hP0 hl3.1 (c_X3_isAmong l D q y14 x1 y18 hy18) [] rfl k_733 mX3_isAmong ⟨rfl, rfl⟩ ⟨Nat.le_of_ble_eq_true rfl, Nat.le_of_ble_eq_true rfl⟩ rfl rfl (Nat.le_of_ble_eq_true rfl) dX3_valueOf_18 ⟨Nat.zero_le _, Nat.zero_le _⟩ ?_
        refine lv_if_eq (tgt := 33) hx hb dX3_valueOf_21 (by decide) (fun c21 => ?_) (fun c21 => ?_)
        · replace hm := tp hm c21
          refine lv_iinc (v := (z4.2 + (1 : Int32))) (lv' := [(3, .int (z4.2 + (1 : Int32))), (0, .ref (a 99)), (1, .int x1), (2, .int z4.1)]) hx hb dX3_valueOf_33 hl3 (k := 3) rfl rfl (by decide) rfl (fun ls21 hl21 => ?_)
          clear hl3
          refine lv_goto (tgt := 4) hx hb dX3_valueOf_36 (by decide) ?_
          cases hm
          exact ih4 (z4.1, (z4.2 + (1 : Int32))) ρ4 hz4 hK4 _ (lv_sub hl21 [1, 2, 3, 0] rfl)
        · replace hm := tn hm c21
          refine lv_iload_n hx hb dX3_valueOf_24 rfl (lv_at hl3 2 rfl) ?_
          refine lv_aload_n hx hb dX3_valueOf_25 rfl (lv_at hl3 0 rfl) ?_
          refine va_get (D := D) (ci := 3) (v := .ref (a 6)) (C := RX3) (T := TX3) (N := 17) hx hb hW iX3 hown hK hP0 0 rfl rfl 6 (by decide) (hW _ k_101) (fun _ h => h) rfl dX3_valueOf_26 ?_
          refine lv_iload_n hx hb dX3_valueOf_29 rfl (lv_at hl3 3 rfl) ?_
          obtain ⟨h22, hm⟩ := ckd hm
          refine va_iald (f := (v 6)) hx hb hK hP0 1 0 rfl rfl (inB_vp h22) dX3_valueOf_30 ?_
          refine lv_iadd hx hb dX3_valueOf_31 ?_
          refine lv_istore_n (lv' := [(2, .int (z4.1 + (v 6 ((z4.2).toNatClampNeg)))), (0, .ref (a 99)), (1, .int x1), (3, .int z4.2)]) hx hb dX3_valueOf_32 rfl hl3 (by decide) rfl (fun ls23 hl23 => ?_)
          clear hl3
          refine lv_iinc (v := (z4.2 + (1 : Int32))) (lv' := [(3, .int (z4.2 + (1 : Int32))), (2, .int (z4.1 + (v 6 ((z4.2).toNatClampNeg)))), (0, .ref (a 99)), (1, .int x1)]) hx hb dX3_valueOf_33 hl23 (k := 3) rfl rfl (by decide) rfl (fun ls24 hl24 => ?_)
          clear hl23
          refine lv_goto (tgt := 4) hx hb dX3_valueOf_36 (by decide) ?_
          cases hm
          exact ih4 ((z4.1 + (v 6 ((z4.2).toNatClampNeg))), (z4.2 + (1 : Int32))) ρ4 hz4 hK4 _ (lv_sub hl24 [2, 3, 1, 0] rfl)
  exact hL4 n4 ((0 : Int32), (0 : Int32)) r4 hn4 hm _ (lv_sub hl2 [2, 3, 1, 0] rfl)
noncomputable def m_X3_exposesAll_K2 (z2 : Int32) : Option (Int32) :=
  some (1 : Int32)
noncomputable def m_X3_exposesAll_K15 (z2 : Int32) (z15 : Int32 × Int32) : Option ((Int32) ⊕ ((Int32) ⊕ (Int32))) :=
  (if z15.1 = 0 then some (.inr (.inr (0 : Int32))) else some (.inl (z2 + (1 : Int32))))
noncomputable def m_X3_exposesAll_L15 (v : SV) (x1 : Int32) (z2 : Int32) (z15 : Int32 × Int32) : Option ((Int32 × Int32) ⊕ (Int32 × Int32)) :=
  (if (v 0 0) ≤ z15.2 then some (.inr (z15.1, z15.2)) else (if z15.1 = 0 then (if ((x1 >>> (z15.2 &&& 31)) &&& (1 : Int32)) = (1 : Int32) then (m_X3_top v z15.2).bind (fun y41 => ck (inB z2 4) ((m_X3_isAmong y41 (v 16 ((z2).toNatClampNeg))).bind (fun y50 => (if y50 = 0 then some (.inl ((0 : Int32), (z15.2 + (1 : Int32)))) else some (.inl ((1 : Int32), (z15.2 + (1 : Int32)))))))) else some (.inl ((0 : Int32), (z15.2 + (1 : Int32))))) else some (.inl ((1 : Int32), (z15.2 + (1 : Int32))))))
noncomputable def m_X3_exposesAll_L2 (v : SV) (x1 : Int32) (z2 : Int32) : Option ((Int32) ⊕ ((Int32) ⊕ (Int32))) :=
  (if (v 0 3) ≤ z2 then some (.inr (.inl z2)) else (lpC (m_X3_exposesAll_L15 v x1 z2) ((0 : Int32), (0 : Int32))).bind (m_X3_exposesAll_K15 z2))
noncomputable def m_X3_exposesAll (v : SV) (x1 : Int32) : Option (Int32) :=
  (lpC (m_X3_exposesAll_L2 v x1) (0 : Int32)).bind (Sum.elim (m_X3_exposesAll_K2) (fun y => some y))
set_option maxHeartbeats 4000000 in
set_option maxRecDepth 100000 in
theorem c_X3_exposesAll (l : Launch) (D : va_G) (q : Nat → ClassId) (a : Nat → Nat) (v : SV) (x1 : Int32) (res : Int32) (hm : m_X3_exposesAll v x1 = some res) : Met l yX3_exposesAll (mw yX3_exposesAll cX3_exposesAll 5 (some .boolean)) ({ frames := 2, cells := 0, slots := 0, locals := 42 } : Room) (pcR D q (wX3 q a v) [.ref (a 99), .int x1]) (vp_Si (fun x => x = res)) 0 0 (fun _ => False) := by
  refine Met.ofW (cc := cX3_exposesAll) (maxL := 5) (ret := (some .boolean)) (by decide) rfl ?_
  intro p e s m args below meth c s₁ B hml hv
  obtain ⟨rfl, hP0, hK⟩ := hv
  have hx := B.exec
  have hb := B.bytes
  have hr := B.returns
  have hW := mw_ws (atoms_spec (ws := mw yX3_exposesAll cX3_exposesAll 5 (some .boolean)) B.pre)
  have hown : s.vm.findClass RX3 = some m.cls := findClass_of_methodNamed B.named
  have hlocks := B.notSynchronized
  have X : Cx p s m [.ref (a 99), .int x1].toArray c cX3_exposesAll 5 RX3 D q := ⟨hx, hb, hml, hown, hW, hK⟩
  have hl0 := lv_entry ([.ref (a 99), .int x1]) (n := 5) (Nat.le_of_ble_eq_true rfl)
  rw [lg_entry_eq]
  generalize (lg_sl ([.ref (a 99), .int x1]) ++ List.replicate (5 - (lg_sl ([.ref (a 99), .int x1])).length) Slot.unset).toArray = ls0 at hl0 ⊢
  have hl0 : lv_has ls0 5 [(0, .ref (a 99)), (1, .int x1)] := hl0
  unfold m_X3_exposesAll at hm
  refine lv_iconst (v := (0 : Int32)) hx hb dX3_exposesAll_0 (by decide) ?_
  refine lv_istore_n (lv' := [(2, .int (0 : Int32)), (0, .ref (a 99)), (1, .int x1)]) hx hb dX3_exposesAll_1 rfl hl0 (by decide) rfl (fun ls1 hl1 => ?_)
  clear hl0
  obtain ⟨r2, hr2, hm⟩ := bn hm
  obtain ⟨n2, hn2⟩ := lpC_ex hr2
  have hE2 : ∀ z2 : Int32, m_X3_exposesAll_K2 z2 = some res → ∀ ls : Array Slot, lv_has ls 5 [] → W p l e ((headSpec (mw yX3_exposesAll cX3_exposesAll 5 (some .boolean)) ({ frames := 2, cells := 0, slots := 0, locals := 42 } : Room)).room) s m [.ref (a 99), .int x1].toArray below meth c s.heap [] 0 0 (MQ below (vp_Si (fun x => x = res)) [.ref (a 99), .int x1].toArray s 0 0 (fun _ => False)) (F0 m 80 ls []) := by
    intro z2 hm ls3 hl3
    unfold m_X3_exposesAll_K2 at hm
    refine lv_iconst (v := (1 : Int32)) hx hb dX3_exposesAll_80 (by decide) ?_
    exact eRz  X hr hlocks rfl hm dX3_exposesAll_81
  have hL2 : ∀ (n : Nat) (z2 : Int32) (ρ2 : (Int32) ⊕ (Int32)), lpO (m_X3_exposesAll_L2 v x1) n z2 = some ρ2 → (Sum.elim (m_X3_exposesAll_K2) (fun y => some y)) ρ2 = some res → ∀ ls : Array Slot, lv_has ls 5 [(0, .ref (a 99)), (1, .int x1), (2, .int z2)] → W p l e ((headSpec (mw yX3_exposesAll cX3_exposesAll 5 (some .boolean)) ({ frames := 2, cells := 0, slots := 0, locals := 42 } : Room)).room) s m [.ref (a 99), .int x1].toArray below meth c s.heap [] 0 0 (MQ below (vp_Si (fun x => x = res)) [.ref (a 99), .int x1].toArray s 0 0 (fun _ => False)) (F0 m 2 ls []) := by
    intro n
    induction n with
    | zero => intro _ _ h; cases h
    | succ n ih2 =>
      intro z2 ρ2 hz2 hK2 ls2 hl2
      obtain ⟨t2, hm, hz2⟩ := bn hz2
      unfold m_X3_exposesAll_L2 at hm
      refine lv_iload_n hx hb dX3_exposesAll_2 rfl (lv_at hl2 2 rfl) ?_
      refine lv_aload_n hx hb dX3_exposesAll_3 rfl (lv_at hl2 0 rfl) ?_
      refine va_get (D := D) (ci := 3) (v := .int (v 0 3)) (C := RX3) (T := TX3) (N := 17) hx hb hW iX3 hown hK hP0 0 rfl rfl 3 (by decide) (hW _ k_94) (fun _ h => h) rfl dX3_exposesAll_4 ?_
      refine lv_icmp_ge (tgt := 80) hx hb dX3_exposesAll_7 (by decide) (fun c7 => ?_) (fun c7 => ?_)
      · replace hm := tp hm c7
        cases hm
        cases hz2
        exact hE2 z2 hK2 _ (lv_sub hl2 [] rfl)
      · replace hm := tn hm c7
        refine lv_iconst (v := (0 : Int32)) hx hb dX3_exposesAll_10 (by decide) ?_
        refine lv_istore_n (lv' := [(3, .int (0 : Int32)), (0, .ref (a 99)), (1, .int x1), (2, .int z2)]) hx hb dX3_exposesAll_11 rfl hl2 (by decide) rfl (fun ls4 hl4 => ?_)
        clear hl2
        refine lv_iconst (v := (0 : Int32)) hx hb dX3_exposesAll_12 (by decide) ?_
        refine lv_istore (lv' := [(4, .int (0 : Int32)), (3, .int (0 : Int32)), (0, .ref (a 99)), (1, .int x1), (2, .int z2)]) hx hb dX3_exposesAll_13 hl4 (by decide) rfl (fun ls5 hl5 => ?_)
        clear hl4
        obtain ⟨r15, hr15, hm⟩ := bn hm
        obtain ⟨n15, hn15⟩ := lpC_ex hr15
        have hE15 : ∀ z15 : Int32 × Int32, m_X3_exposesAll_K15 z2 z15 = some t2 → ∀ ls : Array Slot, lv_has ls 5 [(0, .ref (a 99)), (1, .int x1), (2, .int z2), (3, .int z15.1)] → W p l e ((headSpec (mw yX3_exposesAll cX3_exposesAll 5 (some .boolean)) ({ frames := 2, cells := 0, slots := 0, locals := 42 } : Room)).room) s m [.ref (a 99), .int x1].toArray below meth c s.heap [] 0 0 (MQ below (vp_Si (fun x => x = res)) [.ref (a 99), .int x1].toArray s 0 0 (fun _ => False)) (F0 m 68 ls []) := by
          intro z15 hm ls7 hl7
          unfold m_X3_exposesAll_K15 at hm
          refine lv_iload_n hx hb dX3_exposesAll_68 rfl (lv_at hl7 3 rfl) ?_
          refine lv_if_ne (tgt := 74) hx hb dX3_exposesAll_69 (by decide) (fun c69 => ?_) (fun c69 => ?_)
          · replace hm := tn hm c69
            refine lv_iinc (v := (z2 + (1 : Int32))) (lv' := [(2, .int (z2 + (1 : Int32))), (0, .ref (a 99)), (1, .int x1), (3, .int z15.1)]) hx hb dX3_exposesAll_74 hl7 (k := 2) rfl rfl (by decide) rfl (fun ls8 hl8 => ?_)
            clear hl7
            refine lv_goto (tgt := 2) hx hb dX3_exposesAll_77 (by decide) ?_
            cases hm
            exact ih2 (z2 + (1 : Int32)) ρ2 hz2 hK2 _ (lv_sub hl8 [1, 2, 0] rfl)
          · replace hm := tp hm c69
            refine lv_iconst (v := (0 : Int32)) hx hb dX3_exposesAll_72 (by decide) ?_
            cases hm
            cases hz2
            have hm : (some (0 : Int32) : Option (Int32)) = some res := hK2
            exact eRz  X hr hlocks rfl hm dX3_exposesAll_73
        have hL15 : ∀ (n : Nat) (z15 : Int32 × Int32) (ρ15 : Int32 × Int32), lpO (m_X3_exposesAll_L15 v x1 z2) n z15 = some ρ15 → (m_X3_exposesAll_K15 z2) ρ15 = some t2 → ∀ ls : Array Slot, lv_has ls 5 [(0, .ref (a 99)), (1, .int x1), (2, .int z2), (3, .int z15.1), (4, .int z15.2)] → W p l e ((headSpec (mw yX3_exposesAll cX3_exposesAll 5 (some .boolean)) ({ frames := 2, cells := 0, slots := 0, locals := 42 } : Room)).room) s m [.ref (a 99), .int x1].toArray below meth c s.heap [] 0 0 (MQ below (vp_Si (fun x => x = res)) [.ref (a 99), .int x1].toArray s 0 0 (fun _ => False)) (F0 m 15 ls []) := by
          intro n
          induction n with
          | zero => intro _ _ h; cases h
          | succ n ih15 =>
            intro z15 ρ15 hz15 hK15 ls6 hl6
            obtain ⟨t15, hm, hz15⟩ := bn hz15
            unfold m_X3_exposesAll_L15 at hm
            refine lv_iload hx hb dX3_exposesAll_15 (lv_at hl6 4 rfl) ?_
            refine lv_aload_n hx hb dX3_exposesAll_17 rfl (lv_at hl6 0 rfl) ?_
            refine va_get (D := D) (ci := 3) (v := .int (v 0 0)) (C := RX3) (T := TX3) (N := 17) hx hb hW iX3 hown hK hP0 0 rfl rfl 0 (by decide) (hW _ k_82) (fun _ h => h) rfl dX3_exposesAll_18 ?_
            refine lv_icmp_ge (tgt := 68) hx hb dX3_exposesAll_21 (by decide) (fun c21 => ?_) (fun c21 => ?_)
            · replace hm := tp hm c21
              cases hm
              cases hz15
              exact hE15 (z15.1, z15.2) hK15 _ (lv_sub hl6 [0, 1, 2, 3] rfl)
            · replace hm := tn hm c21
              refine lv_iload_n hx hb dX3_exposesAll_24 rfl (lv_at hl6 3 rfl) ?_
              refine lv_if_ne (tgt := 56) hx hb dX3_exposesAll_25 (by decide) (fun c25 => ?_) (fun c25 => ?_)
              · replace hm := tn hm c25
                refine lv_iconst (v := (1 : Int32)) hx hb dX3_exposesAll_56 (by decide) ?_
                refine lv_goto (tgt := 61) hx hb dX3_exposesAll_57 (by decide) ?_
                refine lv_istore_n (lv' := [(3, .int (1 : Int32)), (0, .ref (a 99)), (1, .int x1), (2, .int z2), (4, .int z15.2)]) hx hb dX3_exposesAll_61 rfl hl6 (by decide) rfl (fun ls16 hl16 => ?_)
                clear hl6
                refine lv_iinc (v := (z15.2 + (1 : Int32))) (lv' := [(4, .int (z15.2 + (1 : Int32))), (3, .int (1 : Int32)), (0, .ref (a 99)), (1, .int x1), (2, .int z2)]) hx hb dX3_exposesAll_62 hl16 (k := 4) rfl rfl (by decide) rfl (fun ls17 hl17 => ?_)
                clear hl16
                refine lv_goto (tgt := 15) hx hb dX3_exposesAll_65 (by decide) ?_
                cases hm
                exact ih15 ((1 : Int32), (z15.2 + (1 : Int32))) ρ15 hz15 hK15 _ (lv_sub hl17 [2, 3, 4, 1, 0] rfl)
              · replace hm := tp hm c25
                refine lv_iload_n hx hb dX3_exposesAll_28 rfl (lv_at hl6 1 rfl) ?_
                refine lv_iload hx hb dX3_exposesAll_29 (lv_at hl6 4 rfl) ?_
                refine lv_ishr hx hb dX3_exposesAll_31 ?_
                refine lv_iconst (v := (1 : Int32)) hx hb dX3_exposesAll_32 (by decide) ?_
                refine lv_iand hx hb dX3_exposesAll_33 ?_
                refine lv_iconst (v := (1 : Int32)) hx hb dX3_exposesAll_34 (by decide) ?_
                refine lv_icmp_ne (tgt := 60) hx hb dX3_exposesAll_35 (by decide) (fun c35 => ?_) (fun c35 => ?_)
                · replace hm := tn hm c35
                  refine lv_iconst (v := (0 : Int32)) hx hb dX3_exposesAll_60 (by decide) ?_
                  refine lv_istore_n (lv' := [(3, .int (0 : Int32)), (0, .ref (a 99)), (1, .int x1), (2, .int z2), (4, .int z15.2)]) hx hb dX3_exposesAll_61 rfl hl6 (by decide) rfl (fun ls14 hl14 => ?_)
                  clear hl6
                  refine lv_iinc (v := (z15.2 + (1 : Int32))) (lv' := [(4, .int (z15.2 + (1 : Int32))), (3, .int (0 : Int32)), (0, .ref (a 99)), (1, .int x1), (2, .int z2)]) hx hb dX3_exposesAll_62 hl14 (k := 4) rfl rfl (by decide) rfl (fun ls15 hl15 => ?_)
                  clear hl14
                  refine lv_goto (tgt := 15) hx hb dX3_exposesAll_65 (by decide) ?_
                  cases hm
                  exact ih15 ((0 : Int32), (z15.2 + (1 : Int32))) ρ15 hz15 hK15 _ (lv_sub hl15 [2, 3, 4, 1, 0] rfl)
                · replace hm := tp hm c35
                  refine lv_aload_n hx hb dX3_exposesAll_38 rfl (lv_at hl6 0 rfl) ?_
                  refine lv_iload hx hb dX3_exposesAll_39 (lv_at hl6 4 rfl) ?_
                  obtain ⟨y41, hy41, hm⟩ := bn hm
                  refine cVRi (As := [.int z15.2]) (rest := []) X hP0 hl6.1 (c_X3_top l D q a v z15.2 y41 hy41) [0, 1, 2, 3, 4, 5, 6, 7, 8, 9, 10, 11] rfl 0 rfl rfl rfl k_526 mX3_top ⟨rfl, rfl⟩ ⟨Nat.le_of_ble_eq_true rfl, Nat.le_of_ble_eq_true rfl⟩ rfl rfl (Nat.le_of_ble_eq_true rfl) dX3_exposesAll_41 ⟨Nat.zero_le _, Nat.zero_le _⟩ ?_
                  refine lv_aload_n hx hb dX3_exposesAll_44 rfl (lv_at hl6 0 rfl) ?_
                  refine va_get (D := D) (ci := 3) (v := .ref (a 16)) (C := RX3) (T := TX3) (N := 17) hx hb hW iX3 hown hK hP0 0 rfl rfl 16 (by decide) (hW _ k_134) (fun _ h => h) rfl dX3_exposesAll_45 ?_
                  refine lv_iload_n hx hb dX3_exposesAll_48 rfl (lv_at hl6 2 rfl) ?_
                  obtain ⟨h9, hm⟩ := ckd hm
                  refine va_iald (f := (v 16)) hx hb hK hP0 11 0 rfl rfl (inB_vp h9) dX3_exposesAll_49 ?_
                  obtain ⟨y50, hy50, hm⟩ := bn hm
                  refine cSRi (As := [.int y41, .int (v 16 ((z2).toNatClampNeg))]) (rest := []) X hP0 hl6.1 (c_X3_isAmong l D q y41 (v 16 ((z2).toNatClampNeg)) y50 hy50) [] rfl k_733 mX3_isAmong ⟨rfl, rfl⟩ ⟨Nat.le_of_ble_eq_true rfl, Nat.le_of_ble_eq_true rfl⟩ rfl rfl (Nat.le_of_ble_eq_true rfl) dX3_exposesAll_50 ⟨Nat.zero_le _, Nat.zero_le _⟩ ?_
                  refine lv_if_eq (tgt := 60) hx hb dX3_exposesAll_53 (by decide) (fun c53 => ?_) (fun c53 => ?_)
                  · replace hm := tp hm c53
                    refine lv_iconst (v := (0 : Int32)) hx hb dX3_exposesAll_60 (by decide) ?_
                    refine lv_istore_n (lv' := [(3, .int (0 : Int32)), (0, .ref (a 99)), (1, .int x1), (2, .int z2), (4, .int z15.2)]) hx hb dX3_exposesAll_61 rfl hl6 (by decide) rfl (fun ls10 hl10 => ?_)
                    clear hl6
                    refine lv_iinc (v := (z15.2 + (1 : Int32))) (lv' := [(4, .int (z15.2 + (1 : Int32))), (3, .int (0 : Int32)), (0, .ref (a 99)), (1, .int x1), (2, .int z2)]) hx hb dX3_exposesAll_62 hl10 (k := 4) rfl rfl (by decide) rfl (fun ls11 hl11 => ?_)
                    clear hl10
                    refine lv_goto (tgt := 15) hx hb dX3_exposesAll_65 (by decide) ?_
                    cases hm
                    exact ih15 ((0 : Int32), (z15.2 + (1 : Int32))) ρ15 hz15 hK15 _ (lv_sub hl11 [2, 3, 4, 1, 0] rfl)
                  · replace hm := tn hm c53
                    refine lv_iconst (v := (1 : Int32)) hx hb dX3_exposesAll_56 (by decide) ?_
                    refine lv_goto (tgt := 61) hx hb dX3_exposesAll_57 (by decide) ?_
                    refine lv_istore_n (lv' := [(3, .int (1 : Int32)), (0, .ref (a 99)), (1, .int x1), (2, .int z2), (4, .int z15.2)]) hx hb dX3_exposesAll_61 rfl hl6 (by decide) rfl (fun ls12 hl12 => ?_)
                    clear hl6
                    refine lv_iinc (v := (z15.2 + (1 : Int32))) (lv' := [(4, .int (z15.2 + (1 : Int32))), (3, .int (1 : Int32)), (0, .ref (a 99)), (1, .int x1), (2, .int z2)]) hx hb dX3_exposesAll_62 hl12 (k := 4) rfl rfl (by decide) rfl (fun ls13 hl13 => ?_)
                    clear hl12
                    refine lv_goto (tgt := 15) hx hb dX3_exposesAll_65 (by decide) ?_
                    cases hm
                    exact ih15 ((1 : Int32), (z15.2 + (1 : Int32))) ρ15 hz15 hK15 _ (lv_sub hl13 [2, 3, 4, 1, 0] rfl)
        exact hL15 n15 ((0 : Int32), (0 : Int32)) r15 hn15 hm _ (lv_sub hl5 [2, 3, 4, 1, 0] rfl)
  exact hL2 n2 (0 : Int32) r2 hn2 hm _ (lv_sub hl1 [1, 2, 0] rfl)
noncomputable def m_X3_comes_K30 (z30 : Int32) : Option (Int32) :=
  some (-4 : Int32)
noncomputable def m_X3_comes_L30 (v : SV) (z17 : Int32) (y24 : Int32) (z30 : Int32) : Option ((Int32) ⊕ ((Int32) ⊕ (Int32))) :=
  (if (v 0 1) < z30 then some (.inr (.inl z30)) else (m_X3_remainder (z17 + z30) (v 0 1)).bind (fun y45 => ck (inB y45 5) ((if (((v 12 ((y45).toNatClampNeg)) >>> (y24 &&& 31)) &&& (1 : Int32)) = (1 : Int32) then some (.inr (.inr y45)) else some (.inl (z30 + (1 : Int32)))))))
noncomputable def m_X3_comes_J17 (v : SV) (z17 : Int32) : Option (Int32) :=
  (m_X3_remainder (v 0 4) (7 : Int32)).bind (fun y24 => (lpC (m_X3_comes_L30 v z17 y24) (1 : Int32)).bind (Sum.elim (m_X3_comes_K30) (fun y => some y)))
noncomputable def m_X3_comes (v : SV) : Option (Int32) :=
  (if (v 0 5) = (-4 : Int32) then m_X3_comes_J17 v (-1 : Int32) else m_X3_comes_J17 v (v 0 5))
set_option maxHeartbeats 4000000 in
set_option maxRecDepth 100000 in
theorem c_X3_comes (l : Launch) (D : va_G) (q : Nat → ClassId) (a : Nat → Nat) (v : SV) (res : Int32) (hm : m_X3_comes v = some res) : Met l yX3_comes (mw yX3_comes cX3_comes 5 (some .int)) ({ frames := 1, cells := 0, slots := 0, locals := 21 } : Room) (pcR D q (wX3 q a v) [.ref (a 99)]) (vp_Si (fun x => x = res)) 0 0 (fun _ => False) := by
  refine Met.ofW (cc := cX3_comes) (maxL := 5) (ret := (some .int)) (by decide) rfl ?_
  intro p e s m args below meth c s₁ B hml hv
  obtain ⟨rfl, hP0, hK⟩ := hv
  have hx := B.exec
  have hb := B.bytes
  have hr := B.returns
  have hW := mw_ws (atoms_spec (ws := mw yX3_comes cX3_comes 5 (some .int)) B.pre)
  have hown : s.vm.findClass RX3 = some m.cls := findClass_of_methodNamed B.named
  have hlocks := B.notSynchronized
  have X : Cx p s m [.ref (a 99)].toArray c cX3_comes 5 RX3 D q := ⟨hx, hb, hml, hown, hW, hK⟩
  have hl0 := lv_entry ([.ref (a 99)]) (n := 5) (Nat.le_of_ble_eq_true rfl)
  rw [lg_entry_eq]
  generalize (lg_sl ([.ref (a 99)]) ++ List.replicate (5 - (lg_sl ([.ref (a 99)])).length) Slot.unset).toArray = ls0 at hl0 ⊢
  have hl0 : lv_has ls0 5 [(0, .ref (a 99))] := hl0
  unfold m_X3_comes at hm
  refine lv_aload_n hx hb dX3_comes_0 rfl (lv_at hl0 0 rfl) ?_
  refine va_get (D := D) (ci := 3) (v := .int (v 0 5)) (C := RX3) (T := TX3) (N := 17) hx hb hW iX3 hown hK hP0 0 rfl rfl 5 (by decide) (hW _ k_99) (fun _ h => h) rfl dX3_comes_1 ?_
  refine lv_bipush (v := (-4 : Int32)) hx hb dX3_comes_4 (by decide) ?_
  have hJ17 : ∀ z17 : Int32, m_X3_comes_J17 v z17 = some res → ∀ ls : Array Slot, lv_has ls 5 [(0, .ref (a 99))] → W p l e ((headSpec (mw yX3_comes cX3_comes 5 (some .int)) ({ frames := 1, cells := 0, slots := 0, locals := 21 } : Room)).room) s m [.ref (a 99)].toArray below meth c s.heap [] 0 0 (MQ below (vp_Si (fun x => x = res)) [.ref (a 99)].toArray s 0 0 (fun _ => False)) (F0 m 17 ls [.int z17]) := by
    intro z17 hm ls1 hl1
    unfold m_X3_comes_J17 at hm
    refine lv_istore_n (lv' := [(1, .int z17), (0, .ref (a 99))]) hx hb dX3_comes_17 rfl hl1 (by decide) rfl (fun ls2 hl2 => ?_)
    clear hl1
    refine lv_aload_n hx hb dX3_comes_18 rfl (lv_at hl2 1 rfl) ?_
    refine va_get (D := D) (ci := 3) (v := .int (v 0 4)) (C := RX3) (T := TX3) (N := 17) hx hb hW iX3 hown hK hP0 0 rfl rfl 4 (by decide) (hW _ k_97) (fun _ h => h) rfl dX3_comes_19 ?_
    refine lv_bipush (v := (7 : Int32)) hx hb dX3_comes_22 (by decide) ?_
    obtain ⟨y24, hy24, hm⟩ := bn hm
    refine cSRi (As := [.int (v 0 4), .int (7 : Int32)]) (rest := []) X hP0 hl2.1 (c_X3_remainder l D q (v 0 4) (7 : Int32) y24 hy24) [] rfl k_617 mX3_remainder ⟨rfl, rfl⟩ ⟨Nat.le_of_ble_eq_true rfl, Nat.le_of_ble_eq_true rfl⟩ rfl rfl (Nat.le_of_ble_eq_true rfl) dX3_comes_24 ⟨Nat.zero_le _, Nat.zero_le _⟩ ?_
    refine lv_istore_n (lv' := [(2, .int y24), (1, .int z17), (0, .ref (a 99))]) hx hb dX3_comes_27 rfl hl2 (by decide) rfl (fun ls3 hl3 => ?_)
    clear hl2
    refine lv_iconst (v := (1 : Int32)) hx hb dX3_comes_28 (by decide) ?_
    refine lv_istore_n (lv' := [(3, .int (1 : Int32)), (2, .int y24), (1, .int z17), (0, .ref (a 99))]) hx hb dX3_comes_29 rfl hl3 (by decide) rfl (fun ls4 hl4 => ?_)
    clear hl3
    obtain ⟨r30, hr30, hm⟩ := bn hm
    obtain ⟨n30, hn30⟩ := lpC_ex hr30
    have hE30 : ∀ z30 : Int32, m_X3_comes_K30 z30 = some res → ∀ ls : Array Slot, lv_has ls 5 [] → W p l e ((headSpec (mw yX3_comes cX3_comes 5 (some .int)) ({ frames := 1, cells := 0, slots := 0, locals := 21 } : Room)).room) s m [.ref (a 99)].toArray below meth c s.heap [] 0 0 (MQ below (vp_Si (fun x => x = res)) [.ref (a 99)].toArray s 0 0 (fun _ => False)) (F0 m 74 ls []) := by
      intro z30 hm ls6 hl6
      unfold m_X3_comes_K30 at hm
      refine lv_bipush (v := (-4 : Int32)) hx hb dX3_comes_74 (by decide) ?_
      exact eRi  X hr hlocks hm dX3_comes_76
    have hL30 : ∀ (n : Nat) (z30 : Int32) (ρ30 : (Int32) ⊕ (Int32)), lpO (m_X3_comes_L30 v z17 y24) n z30 = some ρ30 → (Sum.elim (m_X3_comes_K30) (fun y => some y)) ρ30 = some res → ∀ ls : Array Slot, lv_has ls 5 [(2, .int y24), (1, .int z17), (0, .ref (a 99)), (3, .int z30)] → W p l e ((headSpec (mw yX3_comes cX3_comes 5 (some .int)) ({ frames := 1, cells := 0, slots := 0, locals := 21 } : Room)).room) s m [.ref (a 99)].toArray below meth c s.heap [] 0 0 (MQ below (vp_Si (fun x => x = res)) [.ref (a 99)].toArray s 0 0 (fun _ => False)) (F0 m 30 ls []) := by
      intro n
      induction n with
      | zero => intro _ _ h; cases h
      | succ n ih30 =>
        intro z30 ρ30 hz30 hK30 ls5 hl5
        obtain ⟨t30, hm, hz30⟩ := bn hz30
        unfold m_X3_comes_L30 at hm
        refine lv_iload_n hx hb dX3_comes_30 rfl (lv_at hl5 3 rfl) ?_
        refine lv_aload_n hx hb dX3_comes_31 rfl (lv_at hl5 2 rfl) ?_
        refine va_get (D := D) (ci := 3) (v := .int (v 0 1)) (C := RX3) (T := TX3) (N := 17) hx hb hW iX3 hown hK hP0 0 rfl rfl 1 (by decide) (hW _ k_86) (fun _ h => h) rfl dX3_comes_32 ?_
        refine lv_icmp_gt (tgt := 74) hx hb dX3_comes_35 (by decide) (fun c35 => ?_) (fun c35 => ?_)
        · replace hm := tp hm c35
          cases hm
          cases hz30
          exact hE30 z30 hK30 _ (lv_sub hl5 [] rfl)
        · replace hm := tn hm c35
          refine lv_iload_n hx hb dX3_comes_38 rfl (lv_at hl5 1 rfl) ?_
          refine lv_iload_n hx hb dX3_comes_39 rfl (lv_at hl5 3 rfl) ?_
          refine lv_iadd hx hb dX3_comes_40 ?_
          refine lv_aload_n hx hb dX3_comes_41 rfl (lv_at hl5 2 rfl) ?_
          refine va_get (D := D) (ci := 3) (v := .int (v 0 1)) (C := RX3) (T := TX3) (N := 17) hx hb hW iX3 hown hK hP0 0 rfl rfl 1 (by decide) (hW _ k_86) (fun _ h => h) rfl dX3_comes_42 ?_
          obtain ⟨y45, hy45, hm⟩ := bn hm
          refine cSRi (As := [.int (z17 + z30), .int (v 0 1)]) (rest := []) X hP0 hl5.1 (c_X3_remainder l D q (z17 + z30) (v 0 1) y45 hy45) [] rfl k_617 mX3_remainder ⟨rfl, rfl⟩ ⟨Nat.le_of_ble_eq_true rfl, Nat.le_of_ble_eq_true rfl⟩ rfl rfl (Nat.le_of_ble_eq_true rfl) dX3_comes_45 ⟨Nat.zero_le _, Nat.zero_le _⟩ ?_
          refine lv_istore (lv' := [(4, .int y45), (2, .int y24), (1, .int z17), (0, .ref (a 99)), (3, .int z30)]) hx hb dX3_comes_48 hl5 (by decide) rfl (fun ls7 hl7 => ?_)
          clear hl5
          refine lv_aload_n hx hb dX3_comes_50 rfl (lv_at hl7 3 rfl) ?_
          refine va_get (D := D) (ci := 3) (v := .ref (a 12)) (C := RX3) (T := TX3) (N := 17) hx hb hW iX3 hown hK hP0 0 rfl rfl 12 (by decide) (hW _ k_120) (fun _ h => h) rfl dX3_comes_51 ?_
          refine lv_iload hx hb dX3_comes_54 (lv_at hl7 0 rfl) ?_
          obtain ⟨h8, hm⟩ := ckd hm
          refine va_iald (f := (v 12)) hx hb hK hP0 7 0 rfl rfl (inB_vp h8) dX3_comes_56 ?_
          refine lv_iload_n hx hb dX3_comes_57 rfl (lv_at hl7 1 rfl) ?_
          refine lv_ishr hx hb dX3_comes_58 ?_
          refine lv_iconst (v := (1 : Int32)) hx hb dX3_comes_59 (by decide) ?_
          refine lv_iand hx hb dX3_comes_60 ?_
          refine lv_iconst (v := (1 : Int32)) hx hb dX3_comes_61 (by decide) ?_
          refine lv_icmp_ne (tgt := 68) hx hb dX3_comes_62 (by decide) (fun c62 => ?_) (fun c62 => ?_)
          · replace hm := tn hm c62
            refine lv_iinc (v := (z30 + (1 : Int32))) (lv' := [(3, .int (z30 + (1 : Int32))), (4, .int y45), (2, .int y24), (1, .int z17), (0, .ref (a 99))]) hx hb dX3_comes_68 hl7 (k := 4) rfl rfl (by decide) rfl (fun ls9 hl9 => ?_)
            clear hl7
            refine lv_goto (tgt := 30) hx hb dX3_comes_71 (by decide) ?_
            cases hm
            exact ih30 (z30 + (1 : Int32)) ρ30 hz30 hK30 _ (lv_sub hl9 [2, 3, 4, 0] rfl)
          · replace hm := tp hm c62
            refine lv_iload hx hb dX3_comes_65 (lv_at hl7 0 rfl) ?_
            cases hm
            cases hz30
            have hm : (some y45 : Option (Int32)) = some res := hK30
            exact eRi  X hr hlocks hm dX3_comes_67
    exact hL30 n30 (1 : Int32) r30 hn30 hm _ (lv_sub hl4 [1, 2, 3, 0] rfl)
  refine lv_icmp_ne (tgt := 13) hx hb dX3_comes_6 (by decide) (fun c6 => ?_) (fun c6 => ?_)
  · replace hm := tn hm c6
    refine lv_aload_n hx hb dX3_comes_13 rfl (lv_at hl0 0 rfl) ?_
    refine va_get (D := D) (ci := 3) (v := .int (v 0 5)) (C := RX3) (T := TX3) (N := 17) hx hb hW iX3 hown hK hP0 0 rfl rfl 5 (by decide) (hW _ k_99) (fun _ h => h) rfl dX3_comes_14 ?_
    exact hJ17 (v 0 5) hm _ (lv_sub hl0 [0] rfl)
  · replace hm := tp hm c6
    refine lv_iconst (v := (-1 : Int32)) hx hb dX3_comes_9 (by decide) ?_
    refine lv_goto (tgt := 17) hx hb dX3_comes_10 (by decide) ?_
    exact hJ17 (-1 : Int32) hm _ (lv_sub hl0 [0] rfl)
noncomputable def m_X3_income_K4 (v : SV) (x1 : Int32) (z4 : Int32 × Int32) : Option (Int32) :=
  ck (inB x1 5) ((if (v 9 ((x1).toNatClampNeg)) = (2 : Int32) then some (z4.1 / (2 : Int32)) else some z4.1))
noncomputable def m_X3_income_L4 (v : SV) (x1 : Int32) (z4 : Int32 × Int32) : Option ((Int32 × Int32) ⊕ (Int32 × Int32)) :=
  (if (v 0 0) ≤ z4.2 then some (.inr (z4.1, z4.2)) else (m_X3_top v z4.2).bind (fun y14 => (if y14 = x1 then ck (inB z4.2 6) (some (.inl ((z4.1 + (v 6 ((z4.2).toNatClampNeg))), (z4.2 + (1 : Int32))))) else some (.inl (z4.1, (z4.2 + (1 : Int32)))))))
noncomputable def m_X3_income (v : SV) (x1 : Int32) : Option (Int32) :=
  (lpC (m_X3_income_L4 v x1) ((0 : Int32), (0 : Int32))).bind (m_X3_income_K4 v x1)
set_option maxHeartbeats 4000000 in
set_option maxRecDepth 100000 in
theorem c_X3_income (l : Launch) (D : va_G) (q : Nat → ClassId) (a : Nat → Nat) (v : SV) (x1 : Int32) (res : Int32) (hm : m_X3_income v x1 = some res) : Met l yX3_income (mw yX3_income cX3_income 4 (some .int)) ({ frames := 2, cells := 0, slots := 0, locals := 42 } : Room) (pcR D q (wX3 q a v) [.ref (a 99), .int x1]) (vp_Si (fun x => x = res)) 0 0 (fun _ => False) := by
  refine Met.ofW (cc := cX3_income) (maxL := 4) (ret := (some .int)) (by decide) rfl ?_
  intro p e s m args below meth c s₁ B hml hv
  obtain ⟨rfl, hP0, hK⟩ := hv
  have hx := B.exec
  have hb := B.bytes
  have hr := B.returns
  have hW := mw_ws (atoms_spec (ws := mw yX3_income cX3_income 4 (some .int)) B.pre)
  have hown : s.vm.findClass RX3 = some m.cls := findClass_of_methodNamed B.named
  have hlocks := B.notSynchronized
  have X : Cx p s m [.ref (a 99), .int x1].toArray c cX3_income 4 RX3 D q := ⟨hx, hb, hml, hown, hW, hK⟩
  have hl0 := lv_entry ([.ref (a 99), .int x1]) (n := 4) (Nat.le_of_ble_eq_true rfl)
  rw [lg_entry_eq]
  generalize (lg_sl ([.ref (a 99), .int x1]) ++ List.replicate (4 - (lg_sl ([.ref (a 99), .int x1])).length) Slot.unset).toArray = ls0 at hl0 ⊢
  have hl0 : lv_has ls0 4 [(0, .ref (a 99)), (1, .int x1)] := hl0
  unfold m_X3_income at hm
  refine lv_iconst (v := (0 : Int32)) hx hb dX3_income_0 (by decide) ?_
  refine lv_istore_n (lv' := [(2, .int (0 : Int32)), (0, .ref (a 99)), (1, .int x1)]) hx hb dX3_income_1 rfl hl0 (by decide) rfl (fun ls1 hl1 => ?_)
  clear hl0
  refine lv_iconst (v := (0 : Int32)) hx hb dX3_income_2 (by decide) ?_
  refine lv_istore_n (lv' := [(3, .int (0 : Int32)), (2, .int (0 : Int32)), (0, .ref (a 99)), (1, .int x1)]) hx hb dX3_income_3 rfl hl1 (by decide) rfl (fun ls2 hl2 => ?_)
  clear hl1
  obtain ⟨r4, hr4, hm⟩ := bn hm
  obtain ⟨n4, hn4⟩ := lpC_ex hr4
  have hE4 : ∀ z4 : Int32 × Int32, m_X3_income_K4 v x1 z4 = some res → ∀ ls : Array Slot, lv_has ls 4 [(0, .ref (a 99)), (1, .int x1), (2, .int z4.1)] → W p l e ((headSpec (mw yX3_income cX3_income 4 (some .int)) ({ frames := 2, cells := 0, slots := 0, locals := 42 } : Room)).room) s m [.ref (a 99), .int x1].toArray below meth c s.heap [] 0 0 (MQ below (vp_Si (fun x => x = res)) [.ref (a 99), .int x1].toArray s 0 0 (fun _ => False)) (F0 m 36 ls []) := by
    intro z4 hm ls4 hl4
    unfold m_X3_income_K4 at hm
    refine lv_aload_n hx hb dX3_income_36 rfl (lv_at hl4 0 rfl) ?_
    refine va_get (D := D) (ci := 3) (v := .ref (a 9)) (C := RX3) (T := TX3) (N := 17) hx hb hW iX3 hown hK hP0 0 rfl rfl 9 (by decide) (hW _ k_110) (fun _ h => h) rfl dX3_income_37 ?_
    refine lv_iload_n hx hb dX3_income_40 rfl (lv_at hl4 1 rfl) ?_
    obtain ⟨h5, hm⟩ := ckd hm
    refine va_iald (f := (v 9)) hx hb hK hP0 4 0 rfl rfl (inB_vp h5) dX3_income_41 ?_
    refine lv_iconst (v := (2 : Int32)) hx hb dX3_income_42 (by decide) ?_
    refine lv_icmp_ne (tgt := 52) hx hb dX3_income_43 (by decide) (fun c43 => ?_) (fun c43 => ?_)
    · replace hm := tn hm c43
      refine lv_iload_n hx hb dX3_income_52 rfl (lv_at hl4 2 rfl) ?_
      exact eRi  X hr hlocks hm dX3_income_53
    · replace hm := tp hm c43
      refine lv_iload_n hx hb dX3_income_46 rfl (lv_at hl4 2 rfl) ?_
      refine lv_iconst (v := (2 : Int32)) hx hb dX3_income_47 (by decide) ?_
      refine lv_idiv hx hb dX3_income_48 (by decide) ?_
      refine lv_goto (tgt := 53) hx hb dX3_income_49 (by decide) ?_
      exact eRi  X hr hlocks hm dX3_income_53
  have hL4 : ∀ (n : Nat) (z4 : Int32 × Int32) (ρ4 : Int32 × Int32), lpO (m_X3_income_L4 v x1) n z4 = some ρ4 → (m_X3_income_K4 v x1) ρ4 = some res → ∀ ls : Array Slot, lv_has ls 4 [(0, .ref (a 99)), (1, .int x1), (2, .int z4.1), (3, .int z4.2)] → W p l e ((headSpec (mw yX3_income cX3_income 4 (some .int)) ({ frames := 2, cells := 0, slots := 0, locals := 42 } : Room)).room) s m [.ref (a 99), .int x1].toArray below meth c s.heap [] 0 0 (MQ below (vp_Si (fun x => x = res)) [.ref (a 99), .int x1].toArray s 0 0 (fun _ => False)) (F0 m 4 ls []) := by
    intro n
    induction n with
    | zero => intro _ _ h; cases h
    | succ n ih4 =>
      intro z4 ρ4 hz4 hK4 ls3 hl3
      obtain ⟨t4, hm, hz4⟩ := bn hz4
      unfold m_X3_income_L4 at hm
      refine lv_iload_n hx hb dX3_income_4 rfl (lv_at hl3 3 rfl) ?_
      refine lv_aload_n hx hb dX3_income_5 rfl (lv_at hl3 0 rfl) ?_
      refine va_get (D := D) (ci := 3) (v := .int (v 0 0)) (C := RX3) (T := TX3) (N := 17) hx hb hW iX3 hown hK hP0 0 rfl rfl 0 (by decide) (hW _ k_82) (fun _ h => h) rfl dX3_income_6 ?_
      refine lv_icmp_ge (tgt := 36) hx hb dX3_income_9 (by decide) (fun c9 => ?_) (fun c9 => ?_)
      · replace hm := tp hm c9
        cases hm
        cases hz4
        exact hE4 (z4.1, z4.2) hK4 _ (lv_sub hl3 [0, 1, 2] rfl)
      · replace hm := tn hm c9
        refine lv_aload_n hx hb dX3_income_12 rfl (lv_at hl3 0 rfl) ?_
        refine lv_iload_n hx hb dX3_income_13 rfl (lv_at hl3 3 rfl) ?_
        obtain ⟨y14, hy14, hm⟩ := bn hm
        refine cVRi (As := [.int z4.2]) (rest := []) X hP0 hl3.1 (c_X3_top l D q a v z4.2 y14 hy14) [0, 1, 2, 3, 4, 5, 6, 7, 8, 9, 10, 11] rfl 0 rfl rfl rfl k_526 mX3_top ⟨rfl, rfl⟩ ⟨Nat.le_of_ble_eq_true rfl, Nat.le_of_ble_eq_true rfl⟩ rfl rfl (Nat.le_of_ble_eq_true rfl) dX3_income_14 ⟨Nat.zero_le _, Nat.zero_le _⟩ ?_
        refine lv_iload_n hx hb dX3_income_17 rfl (lv_at hl3 1 rfl) ?_
        refine lv_icmp_ne (tgt := 30) hx hb dX3_income_18 (by decide) (fun c18 => ?_) (fun c18 => ?_)
        · replace hm := tn hm c18
          refine lv_iinc (v := (z4.2 + (1 : Int32))) (lv' := [(3, .int (z4.2 + (1 : Int32))), (0, .ref (a 99)), (1, .int x1), (2, .int z4.1)]) hx hb dX3_income_30 hl3 (k := 3) rfl rfl (by decide) rfl (fun ls9 hl9 => ?_)
          clear hl3
          refine lv_goto (tgt := 4) hx hb dX3_income_33 (by decide) ?_
          cases hm
          exact ih4 (z4.1, (z4.2 + (1 : Int32))) ρ4 hz4 hK4 _ (lv_sub hl9 [1, 2, 3, 0] rfl)
        · replace hm := tp hm c18
          refine lv_iload_n hx hb dX3_income_21 rfl (lv_at hl3 2 rfl) ?_
          refine lv_aload_n hx hb dX3_income_22 rfl (lv_at hl3 0 rfl) ?_
          refine va_get (D := D) (ci := 3) (v := .ref (a 6)) (C := RX3) (T := TX3) (N := 17) hx hb hW iX3 hown hK hP0 0 rfl rfl 6 (by decide) (hW _ k_101) (fun _ h => h) rfl dX3_income_23 ?_
          refine lv_iload_n hx hb dX3_income_26 rfl (lv_at hl3 3 rfl) ?_
          obtain ⟨h6, hm⟩ := ckd hm
          refine va_iald (f := (v 6)) hx hb hK hP0 1 0 rfl rfl (inB_vp h6) dX3_income_27 ?_
          refine lv_iadd hx hb dX3_income_28 ?_
          refine lv_istore_n (lv' := [(2, .int (z4.1 + (v 6 ((z4.2).toNatClampNeg)))), (0, .ref (a 99)), (1, .int x1), (3, .int z4.2)]) hx hb dX3_income_29 rfl hl3 (by decide) rfl (fun ls7 hl7 => ?_)
          clear hl3
          refine lv_iinc (v := (z4.2 + (1 : Int32))) (lv' := [(3, .int (z4.2 + (1 : Int32))), (2, .int (z4.1 + (v 6 ((z4.2).toNatClampNeg)))), (0, .ref (a 99)), (1, .int x1)]) hx hb dX3_income_30 hl7 (k := 3) rfl rfl (by decide) rfl (fun ls8 hl8 => ?_)
          clear hl7
          refine lv_goto (tgt := 4) hx hb dX3_income_33 (by decide) ?_
          cases hm
          exact ih4 ((z4.1 + (v 6 ((z4.2).toNatClampNeg))), (z4.2 + (1 : Int32))) ρ4 hz4 hK4 _ (lv_sub hl8 [2, 3, 1, 0] rfl)
  exact hL4 n4 ((0 : Int32), (0 : Int32)) r4 hn4 hm _ (lv_sub hl2 [2, 3, 1, 0] rfl)
noncomputable def m_X3_passDay_K38 (z36 : Int32 × SV) (z38 : Int32 × SV) : Option (Int32 × SV) :=
  lett (up2 z38.2 0 4 ((z38.2 0 4) + (1 : Int32))) (fun v10_ => some (z36.1, v10_))
noncomputable def m_X3_passDay_L38 (z38 : Int32 × SV) : Option ((Int32 × SV) ⊕ (Int32 × SV)) :=
  (if (z38.2 0 1) ≤ z38.1 then some (.inr (z38.1, z38.2)) else ck (inB z38.1 5) ((m_X3_income z38.2 z38.1).bind (fun y62 => ck (inB z38.1 5) (lett (up2 z38.2 13 ((z38.1).toNatClampNeg) (if ((z38.2 13 ((z38.1).toNatClampNeg)) + y62) < (999 : Int32) then ((z38.2 13 ((z38.1).toNatClampNeg)) + y62) else (999 : Int32))) (fun v13_ => some (.inl ((z38.1 + (1 : Int32)), v13_)))))))
noncomputable def m_X3_passDay_J36 (z36 : Int32 × SV) : Option (Int32 × SV) :=
  (lpC (m_X3_passDay_L38) ((0 : Int32), z36.2)).bind (m_X3_passDay_K38 z36)
noncomputable def m_X3_passDay (v : SV) : Option (Int32 × SV) :=
  (m_X3_comes v).bind (fun y3 => (if y3 = (-4 : Int32) then m_X3_passDay_J36 ((0 : Int32), v) else (m_X3_remainder (v 0 4) (v 0 0)).bind (fun y22 => (m_X3_cover v y22 y3).bind (fun y26 => lett (up2 y26 0 5 y3) (fun v16_ => m_X3_passDay_J36 ((1 : Int32), v16_))))))
set_option maxHeartbeats 4000000 in
set_option maxRecDepth 100000 in
theorem c_X3_passDay (l : Launch) (D : va_G) (q : Nat → ClassId) (sz : Nat) (a : Nat → Nat) (v : SV) (res : Int32 × SV) (hm : m_X3_passDay v = some res) : Met l yX3_passDay (mw yX3_passDay cX3_passDay 4 (some .int)) ({ frames := 3, cells := 0, slots := 0, locals := 83 } : Room) (pcW D q (wX3 q a v) sz [.ref (a 99)]) (va_Qi (fun r w => r = res.1 ∧ w = res.2) (bW D q (wX3 q a v) sz (fun (uu : SV) => wX3 q a uu)) (va_A (wX3 q a v) sz)) 0 0 (va_A (wX3 q a v) sz) := by
  refine Met.ofW (cc := cX3_passDay) (maxL := 4) (ret := (some .int)) (by decide) rfl ?_
  intro p e s m args below meth c s₁ B hml hv
  obtain ⟨rfl, hsz, hP0, hK, hD0⟩ := hv
  have hx := B.exec
  have hb := B.bytes
  have hr := B.returns
  have hW := mw_ws (atoms_spec (ws := mw yX3_passDay cX3_passDay 4 (some .int)) B.pre)
  have hown : s.vm.findClass RX3 = some m.cls := findClass_of_methodNamed B.named
  have hlocks := B.notSynchronized
  have X : Cx p s m [.ref (a 99)].toArray c cX3_passDay 4 RX3 D q := ⟨hx, hb, hml, hown, hW, hK⟩
  subst hsz
  replace hD0 := hD0.self (sz := s.heap.size)
  have hS0 : va_S (va_A (wX3 q a v) s.heap.size) s.heap s.heap [] := va_S.rf
  have hl0 := lv_entry ([.ref (a 99)]) (n := 4) (Nat.le_of_ble_eq_true rfl)
  rw [lg_entry_eq]
  generalize (lg_sl ([.ref (a 99)]) ++ List.replicate (4 - (lg_sl ([.ref (a 99)])).length) Slot.unset).toArray = ls0 at hl0 ⊢
  have hl0 : lv_has ls0 4 [(0, .ref (a 99))] := hl0
  unfold m_X3_passDay at hm
  refine lv_iconst (v := (0 : Int32)) hx hb dX3_passDay_0 (by decide) ?_
  refine lv_istore_n (lv' := [(1, .int (0 : Int32)), (0, .ref (a 99))]) hx hb dX3_passDay_1 rfl hl0 (by decide) rfl (fun ls1 hl1 => ?_)
  clear hl0
  refine lv_aload_n hx hb dX3_passDay_2 rfl (lv_at hl1 1 rfl) ?_
  obtain ⟨y3, hy3, hm⟩ := bn hm
  refine cVRi (As := []) (rest := []) X hP0 hl1.1 (c_X3_comes l D q a v y3 hy3) [0, 1, 2, 3, 4, 5, 6, 7, 8, 9, 10, 11] rfl 0 rfl rfl rfl k_613 mX3_comes ⟨rfl, rfl⟩ ⟨Nat.le_of_ble_eq_true rfl, Nat.le_of_ble_eq_true rfl⟩ rfl rfl (Nat.le_of_ble_eq_true rfl) dX3_passDay_3 ⟨Nat.zero_le _, Nat.zero_le _⟩ ?_
  refine lv_istore_n (lv' := [(2, .int y3), (1, .int (0 : Int32)), (0, .ref (a 99))]) hx hb dX3_passDay_6 rfl hl1 (by decide) rfl (fun ls2 hl2 => ?_)
  clear hl1
  refine lv_iload_n hx hb dX3_passDay_7 rfl (lv_at hl2 0 rfl) ?_
  refine lv_bipush (v := (-4 : Int32)) hx hb dX3_passDay_8 (by decide) ?_
  have hJ36 : ∀ z36 : Int32 × SV, m_X3_passDay_J36 z36 = some res → ∀ (H : Heap) (locs : List Loc), va_P D cls (wX3 q a z36.2) H → va_D (va_A (wX3 q a v) s.heap.size) (wX3 q a z36.2) → va_S (va_A (wX3 q a v) s.heap.size) s.heap H locs → ∀ ls : Array Slot, lv_has ls 4 [(0, .ref (a 99)), (1, .int z36.1)] → W p l e ((headSpec (mw yX3_passDay cX3_passDay 4 (some .int)) ({ frames := 3, cells := 0, slots := 0, locals := 83 } : Room)).room) s m [.ref (a 99)].toArray below meth c H locs 0 0 (MQ below (va_Qi (fun r w => r = res.1 ∧ w = res.2) (bW D q (wX3 q a v) s.heap.size (fun (uu : SV) => wX3 q a uu)) (va_A (wX3 q a v) s.heap.size)) [.ref (a 99)].toArray s 0 0 (va_A (wX3 q a v) s.heap.size)) (F0 m 36 ls []) := by
    intro z36 hm H4 locs4 hP4 hD4 hS4 ls3 hl3
    unfold m_X3_passDay_J36 at hm
    refine lv_iconst (v := (0 : Int32)) hx hb dX3_passDay_36 (by decide) ?_
    refine lv_istore_n (lv' := [(3, .int (0 : Int32)), (0, .ref (a 99)), (1, .int z36.1)]) hx hb dX3_passDay_37 rfl hl3 (by decide) rfl (fun ls5 hl5 => ?_)
    clear hl3
    obtain ⟨r38, hr38, hm⟩ := bn hm
    obtain ⟨n38, hn38⟩ := lpC_ex hr38
    have hE38 : ∀ z38 : Int32 × SV, m_X3_passDay_K38 z36 z38 = some res → ∀ (H : Heap) (locs : List Loc), va_P D cls (wX3 q a z38.2) H → va_D (va_A (wX3 q a v) s.heap.size) (wX3 q a z38.2) → va_S (va_A (wX3 q a v) s.heap.size) s.heap H locs → ∀ ls : Array Slot, lv_has ls 4 [(0, .ref (a 99)), (1, .int z36.1)] → W p l e ((headSpec (mw yX3_passDay cX3_passDay 4 (some .int)) ({ frames := 3, cells := 0, slots := 0, locals := 83 } : Room)).room) s m [.ref (a 99)].toArray below meth c H locs 0 0 (MQ below (va_Qi (fun r w => r = res.1 ∧ w = res.2) (bW D q (wX3 q a v) s.heap.size (fun (uu : SV) => wX3 q a uu)) (va_A (wX3 q a v) s.heap.size)) [.ref (a 99)].toArray s 0 0 (va_A (wX3 q a v) s.heap.size)) (F0 m 76 ls []) := by
      intro z38 hm H9 locs9 hP9 hD9 hS9 ls8 hl8
      unfold m_X3_passDay_K38 at hm
      refine lv_aload_n hx hb dX3_passDay_76 rfl (lv_at hl8 0 rfl) ?_
      refine lv_dup hx hb dX3_passDay_77 rfl ?_
      refine va_get (D := D) (ci := 3) (v := .int (z38.2 0 4)) (C := RX3) (T := TX3) (N := 17) hx hb hW iX3 hown hK hP9 0 rfl rfl 4 (by decide) (hW _ k_97) (fun _ h => h) rfl dX3_passDay_78 ?_
      refine lv_iconst (v := (1 : Int32)) hx hb dX3_passDay_81 (by decide) ?_
      refine lv_iadd hx hb dX3_passDay_82 ?_
      refine va_put (D := D) (ci := 3) (v := .int ((z38.2 0 4) + (1 : Int32))) (ty := .int) (C := RX3) (T := TX3) (N := 17) hx hb hW iX3 tyX3 tyX3_ok nmX3 hown hK hP9 hD9 hS9 0 rfl rfl 4 (by decide) (hW _ k_97) (fun _ h => h) rfl (by decide +kernel) rfl rfl (Nat.le_of_ble_eq_true rfl) dX3_passDay_83 (fun H10 locs10 hP hD hS10 => ?_)
      obtain ⟨v10_, e10, hm⟩ := ltd hm
      have hP10 : va_P D cls (wX3 q a v10_) H10 := by rw [e10]; exact hP
      have hD10 : va_D (va_A (wX3 q a v) s.heap.size) (wX3 q a v10_) := by rw [e10]; exact hD
      clear hP hD hP9 hD9 hS9
      refine lv_iload_n hx hb dX3_passDay_86 rfl (lv_at hl8 1 rfl) ?_
      exact eWi (Wf := fun (uu : SV) => wX3 q a uu) (u := v10_) X hr hlocks hP10 hD10 hS10 hm dX3_passDay_87
    have hL38 : ∀ (n : Nat) (z38 : Int32 × SV) (ρ38 : Int32 × SV), lpO (m_X3_passDay_L38) n z38 = some ρ38 → (m_X3_passDay_K38 z36) ρ38 = some res → ∀ (H : Heap) (locs : List Loc), va_P D cls (wX3 q a z38.2) H → va_D (va_A (wX3 q a v) s.heap.size) (wX3 q a z38.2) → va_S (va_A (wX3 q a v) s.heap.size) s.heap H locs → ∀ ls : Array Slot, lv_has ls 4 [(0, .ref (a 99)), (1, .int z36.1), (3, .int z38.1)] → W p l e ((headSpec (mw yX3_passDay cX3_passDay 4 (some .int)) ({ frames := 3, cells := 0, slots := 0, locals := 83 } : Room)).room) s m [.ref (a 99)].toArray below meth c H locs 0 0 (MQ below (va_Qi (fun r w => r = res.1 ∧ w = res.2) (bW D q (wX3 q a v) s.heap.size (fun (uu : SV) => wX3 q a uu)) (va_A (wX3 q a v) s.heap.size)) [.ref (a 99)].toArray s 0 0 (va_A (wX3 q a v) s.heap.size)) (F0 m 38 ls []) := by
      intro n
      induction n with
      | zero => intro _ _ h; cases h
      | succ n ih38 =>
        intro z38 ρ38 hz38 hK38 H7 locs7 hP7 hD7 hS7 ls6 hl6
        obtain ⟨t38, hm, hz38⟩ := bn hz38
        unfold m_X3_passDay_L38 at hm
        refine lv_iload_n hx hb dX3_passDay_38 rfl (lv_at hl6 2 rfl) ?_
        refine lv_aload_n hx hb dX3_passDay_39 rfl (lv_at hl6 0 rfl) ?_
        refine va_get (D := D) (ci := 3) (v := .int (z38.2 0 1)) (C := RX3) (T := TX3) (N := 17) hx hb hW iX3 hown hK hP7 0 rfl rfl 1 (by decide) (hW _ k_86) (fun _ h => h) rfl dX3_passDay_40 ?_
        refine lv_icmp_ge (tgt := 76) hx hb dX3_passDay_43 (by decide) (fun c43 => ?_) (fun c43 => ?_)
        · replace hm := tp hm c43
          cases hm
          cases hz38
          exact hE38 (z38.1, z38.2) hK38 _ _ hP7 hD7 hS7 _ (lv_sub hl6 [0, 1] rfl)
        · replace hm := tn hm c43
          refine lv_aload_n hx hb dX3_passDay_46 rfl (lv_at hl6 0 rfl) ?_
          refine va_get (D := D) (ci := 3) (v := .ref (a 13)) (C := RX3) (T := TX3) (N := 17) hx hb hW iX3 hown hK hP7 0 rfl rfl 13 (by decide) (hW _ k_123) (fun _ h => h) rfl dX3_passDay_47 ?_
          refine lv_iload_n hx hb dX3_passDay_50 rfl (lv_at hl6 2 rfl) ?_
          refine lv_sipush (v := (999 : Int32)) hx hb dX3_passDay_51 (by decide) ?_
          refine lv_aload_n hx hb dX3_passDay_54 rfl (lv_at hl6 0 rfl) ?_
          refine va_get (D := D) (ci := 3) (v := .ref (a 13)) (C := RX3) (T := TX3) (N := 17) hx hb hW iX3 hown hK hP7 0 rfl rfl 13 (by decide) (hW _ k_123) (fun _ h => h) rfl dX3_passDay_55 ?_
          refine lv_iload_n hx hb dX3_passDay_58 rfl (lv_at hl6 2 rfl) ?_
          obtain ⟨h11, hm⟩ := ckd hm
          refine va_iald (f := (z38.2 13)) hx hb hK hP7 8 0 rfl rfl (inB_vp h11) dX3_passDay_59 ?_
          refine lv_aload_n hx hb dX3_passDay_60 rfl (lv_at hl6 0 rfl) ?_
          refine lv_iload_n hx hb dX3_passDay_61 rfl (lv_at hl6 2 rfl) ?_
          obtain ⟨y62, hy62, hm⟩ := bn hm
          refine cVRi (As := [.int z38.1]) (rest := [.int (z38.2 13 ((z38.1).toNatClampNeg)), .int (999 : Int32), .int z38.1, .ref (a 13)]) X hP7 hl6.1 (c_X3_income l D q a z38.2 z38.1 y62 hy62) [0, 1, 2, 3, 4, 5, 6, 7, 8, 9, 10, 11] rfl 0 rfl rfl rfl k_620 mX3_income ⟨rfl, rfl⟩ ⟨Nat.le_of_ble_eq_true rfl, Nat.le_of_ble_eq_true rfl⟩ rfl rfl (Nat.le_of_ble_eq_true rfl) dX3_passDay_62 ⟨Nat.zero_le _, Nat.zero_le _⟩ ?_
          refine lv_iadd hx hb dX3_passDay_65 ?_
          refine va_mmin hx hb (by rw [X.2.2.1]; exact hl6.1.symm) hown (hW _ k_511) (hW _ k_512) (hW _ k_52) (hW _ k_513) (by exact Nat.le_of_ble_eq_true rfl) (by exact Nat.le_of_ble_eq_true rfl) (Nat.zero_le _) (Nat.zero_le _) dX3_passDay_66 ?_
          obtain ⟨h12, hm⟩ := ckd hm
          refine va_iast (f := (z38.2 13)) hx hb hK hP7 hD7 hS7 8 0 rfl rfl (inB_vp h12) dX3_passDay_69 (fun H13 locs13 hP hD hS13 => ?_)
          obtain ⟨v13_, e13, hm⟩ := ltd hm
          have hP13 : va_P D cls (wX3 q a v13_) H13 := by rw [e13]; exact hP
          have hD13 : va_D (va_A (wX3 q a v) s.heap.size) (wX3 q a v13_) := by rw [e13]; exact hD
          clear hP hD hP7 hD7 hS7
          refine lv_iinc (v := (z38.1 + (1 : Int32))) (lv' := [(3, .int (z38.1 + (1 : Int32))), (0, .ref (a 99)), (1, .int z36.1)]) hx hb dX3_passDay_70 hl6 (k := 2) rfl rfl (by decide) rfl (fun ls14 hl14 => ?_)
          clear hl6
          refine lv_goto (tgt := 38) hx hb dX3_passDay_73 (by decide) ?_
          cases hm
          exact ih38 ((z38.1 + (1 : Int32)), v13_) ρ38 hz38 hK38 _ _ hP13 hD13 hS13 _ (lv_sub hl14 [1, 2, 0] rfl)
    exact hL38 n38 ((0 : Int32), z36.2) r38 hn38 hm _ _ hP4 hD4 hS4 _ (lv_sub hl5 [1, 2, 0] rfl)
  refine lv_icmp_eq (tgt := 36) hx hb dX3_passDay_10 (by decide) (fun c10 => ?_) (fun c10 => ?_)
  · replace hm := tp hm c10
    exact hJ36 ((0 : Int32), v) hm _ _ hP0 hD0 hS0 _ (lv_sub hl2 [2, 1] rfl)
  · replace hm := tn hm c10
    refine lv_aload_n hx hb dX3_passDay_13 rfl (lv_at hl2 2 rfl) ?_
    refine lv_aload_n hx hb dX3_passDay_14 rfl (lv_at hl2 2 rfl) ?_
    refine va_get (D := D) (ci := 3) (v := .int (v 0 4)) (C := RX3) (T := TX3) (N := 17) hx hb hW iX3 hown hK hP0 0 rfl rfl 4 (by decide) (hW _ k_97) (fun _ h => h) rfl dX3_passDay_15 ?_
    refine lv_aload_n hx hb dX3_passDay_18 rfl (lv_at hl2 2 rfl) ?_
    refine va_get (D := D) (ci := 3) (v := .int (v 0 0)) (C := RX3) (T := TX3) (N := 17) hx hb hW iX3 hown hK hP0 0 rfl rfl 0 (by decide) (hW _ k_82) (fun _ h => h) rfl dX3_passDay_19 ?_
    obtain ⟨y22, hy22, hm⟩ := bn hm
    refine cSRi (As := [.int (v 0 4), .int (v 0 0)]) (rest := [.ref (a 99)]) X hP0 hl2.1 (c_X3_remainder l D q (v 0 4) (v 0 0) y22 hy22) [] rfl k_617 mX3_remainder ⟨rfl, rfl⟩ ⟨Nat.le_of_ble_eq_true rfl, Nat.le_of_ble_eq_true rfl⟩ rfl rfl (Nat.le_of_ble_eq_true rfl) dX3_passDay_22 ⟨Nat.zero_le _, Nat.zero_le _⟩ ?_
    refine lv_iload_n hx hb dX3_passDay_25 rfl (lv_at hl2 0 rfl) ?_
    obtain ⟨y26, hy26, hm⟩ := bn hm
    refine cVWv (As := [.int y22, .int y3]) (rest := []) (Wn := fun (uu : SV) => wX3 q a uu) X hP0 hD0 hS0 (fun _ h => Or.inr h) hl2.1 (c_X3_cover l D q s.heap.size a v y22 y3 y26 hy26) [0, 1, 2, 3, 4, 5, 6, 7, 8, 9, 10, 11] [] [0, 1, 2, 3, 4, 5, 6, 7, 8, 9, 10, 11] rfl (Wr := []) rfl (by decide) (by decide) (by decide) (by decide) (fun _ => rfl) 0 rfl rfl rfl k_584 mX3_cover ⟨rfl, rfl⟩ ⟨Nat.le_of_ble_eq_true rfl, Nat.le_of_ble_eq_true rfl⟩ rfl rfl (Nat.le_of_ble_eq_true rfl) dX3_passDay_26 ⟨Nat.zero_le _, Nat.zero_le _⟩ (fun H15 locs15 hP hD hS15 => ?_)
    have hP15 : va_P D cls (wX3 q a y26) H15 := hP
    have hD15 : va_D (va_A (wX3 q a v) s.heap.size) (wX3 q a y26) := hD
    clear hP hD hP0 hD0 hS0
    refine lv_aload_n hx hb dX3_passDay_29 rfl (lv_at hl2 2 rfl) ?_
    refine lv_iload_n hx hb dX3_passDay_30 rfl (lv_at hl2 0 rfl) ?_
    refine va_put (D := D) (ci := 3) (v := .int y3) (ty := .int) (C := RX3) (T := TX3) (N := 17) hx hb hW iX3 tyX3 tyX3_ok nmX3 hown hK hP15 hD15 hS15 0 rfl rfl 5 (by decide) (hW _ k_99) (fun _ h => h) rfl (by decide +kernel) rfl rfl (Nat.le_of_ble_eq_true rfl) dX3_passDay_31 (fun H16 locs16 hP hD hS16 => ?_)
    obtain ⟨v16_, e16, hm⟩ := ltd hm
    have hP16 : va_P D cls (wX3 q a v16_) H16 := by rw [e16]; exact hP
    have hD16 : va_D (va_A (wX3 q a v) s.heap.size) (wX3 q a v16_) := by rw [e16]; exact hD
    clear hP hD hP15 hD15 hS15
    refine lv_iconst (v := (1 : Int32)) hx hb dX3_passDay_34 (by decide) ?_
    refine lv_istore_n (lv' := [(1, .int (1 : Int32)), (2, .int y3), (0, .ref (a 99))]) hx hb dX3_passDay_35 rfl hl2 (by decide) rfl (fun ls17 hl17 => ?_)
    clear hl2
    exact hJ36 ((1 : Int32), v16_) hm _ _ hP16 hD16 hS16 _ (lv_sub hl17 [2, 0] rfl)
noncomputable def m_J6_bitCount_0f7a4 (x1 : Int32) : Option (Int32) :=
  some ((((((((x1 - (((x1.toUInt32 >>> ((1 : Int32).toUInt32 &&& Int32.toUInt32 31)).toInt32) &&& (1431655765 : Int32))) &&& (858993459 : Int32)) + ((((x1 - (((x1.toUInt32 >>> ((1 : Int32).toUInt32 &&& Int32.toUInt32 31)).toInt32) &&& (1431655765 : Int32))).toUInt32 >>> ((2 : Int32).toUInt32 &&& Int32.toUInt32 31)).toInt32) &&& (858993459 : Int32))) + (((((x1 - (((x1.toUInt32 >>> ((1 : Int32).toUInt32 &&& Int32.toUInt32 31)).toInt32) &&& (1431655765 : Int32))) &&& (858993459 : Int32)) + ((((x1 - (((x1.toUInt32 >>> ((1 : Int32).toUInt32 &&& Int32.toUInt32 31)).toInt32) &&& (1431655765 : Int32))).toUInt32 >>> ((2 : Int32).toUInt32 &&& Int32.toUInt32 31)).toInt32) &&& (858993459 : Int32))).toUInt32 >>> ((4 : Int32).toUInt32 &&& Int32.toUInt32 31)).toInt32)) &&& (252645135 : Int32)) + (((((((x1 - (((x1.toUInt32 >>> ((1 : Int32).toUInt32 &&& Int32.toUInt32 31)).toInt32) &&& (1431655765 : Int32))) &&& (858993459 : Int32)) + ((((x1 - (((x1.toUInt32 >>> ((1 : Int32).toUInt32 &&& Int32.toUInt32 31)).toInt32) &&& (1431655765 : Int32))).toUInt32 >>> ((2 : Int32).toUInt32 &&& Int32.toUInt32 31)).toInt32) &&& (858993459 : Int32))) + (((((x1 - (((x1.toUInt32 >>> ((1 : Int32).toUInt32 &&& Int32.toUInt32 31)).toInt32) &&& (1431655765 : Int32))) &&& (858993459 : Int32)) + ((((x1 - (((x1.toUInt32 >>> ((1 : Int32).toUInt32 &&& Int32.toUInt32 31)).toInt32) &&& (1431655765 : Int32))).toUInt32 >>> ((2 : Int32).toUInt32 &&& Int32.toUInt32 31)).toInt32) &&& (858993459 : Int32))).toUInt32 >>> ((4 : Int32).toUInt32 &&& Int32.toUInt32 31)).toInt32)) &&& (252645135 : Int32)).toUInt32 >>> ((8 : Int32).toUInt32 &&& Int32.toUInt32 31)).toInt32)) + ((((((((x1 - (((x1.toUInt32 >>> ((1 : Int32).toUInt32 &&& Int32.toUInt32 31)).toInt32) &&& (1431655765 : Int32))) &&& (858993459 : Int32)) + ((((x1 - (((x1.toUInt32 >>> ((1 : Int32).toUInt32 &&& Int32.toUInt32 31)).toInt32) &&& (1431655765 : Int32))).toUInt32 >>> ((2 : Int32).toUInt32 &&& Int32.toUInt32 31)).toInt32) &&& (858993459 : Int32))) + (((((x1 - (((x1.toUInt32 >>> ((1 : Int32).toUInt32 &&& Int32.toUInt32 31)).toInt32) &&& (1431655765 : Int32))) &&& (858993459 : Int32)) + ((((x1 - (((x1.toUInt32 >>> ((1 : Int32).toUInt32 &&& Int32.toUInt32 31)).toInt32) &&& (1431655765 : Int32))).toUInt32 >>> ((2 : Int32).toUInt32 &&& Int32.toUInt32 31)).toInt32) &&& (858993459 : Int32))).toUInt32 >>> ((4 : Int32).toUInt32 &&& Int32.toUInt32 31)).toInt32)) &&& (252645135 : Int32)) + (((((((x1 - (((x1.toUInt32 >>> ((1 : Int32).toUInt32 &&& Int32.toUInt32 31)).toInt32) &&& (1431655765 : Int32))) &&& (858993459 : Int32)) + ((((x1 - (((x1.toUInt32 >>> ((1 : Int32).toUInt32 &&& Int32.toUInt32 31)).toInt32) &&& (1431655765 : Int32))).toUInt32 >>> ((2 : Int32).toUInt32 &&& Int32.toUInt32 31)).toInt32) &&& (858993459 : Int32))) + (((((x1 - (((x1.toUInt32 >>> ((1 : Int32).toUInt32 &&& Int32.toUInt32 31)).toInt32) &&& (1431655765 : Int32))) &&& (858993459 : Int32)) + ((((x1 - (((x1.toUInt32 >>> ((1 : Int32).toUInt32 &&& Int32.toUInt32 31)).toInt32) &&& (1431655765 : Int32))).toUInt32 >>> ((2 : Int32).toUInt32 &&& Int32.toUInt32 31)).toInt32) &&& (858993459 : Int32))).toUInt32 >>> ((4 : Int32).toUInt32 &&& Int32.toUInt32 31)).toInt32)) &&& (252645135 : Int32)).toUInt32 >>> ((8 : Int32).toUInt32 &&& Int32.toUInt32 31)).toInt32)).toUInt32 >>> ((16 : Int32).toUInt32 &&& Int32.toUInt32 31)).toInt32)) &&& (63 : Int32))
set_option maxHeartbeats 4000000 in
set_option maxRecDepth 100000 in
theorem c_J6_bitCount_0f7a4 (l : Launch) (D : va_G) (q : Nat → ClassId) (x1 : Int32) (res : Int32) (hm : m_J6_bitCount_0f7a4 x1 = some res) : Met l yJ6_bitCount_0f7a4 (mw yJ6_bitCount_0f7a4 cJ6_bitCount_0f7a4 1 (some .int)) ({ frames := 0, cells := 0, slots := 0, locals := 0 } : Room) (pcR D q ([]) [.int x1]) (vp_Si (fun x => x = res)) 0 0 (fun _ => False) := by
  refine Met.ofW (cc := cJ6_bitCount_0f7a4) (maxL := 1) (ret := (some .int)) (by decide) rfl ?_
  intro p e s m args below meth c s₁ B hml hv
  obtain ⟨rfl, hP0, hK⟩ := hv
  have hx := B.exec
  have hb := B.bytes
  have hr := B.returns
  have hW := mw_ws (atoms_spec (ws := mw yJ6_bitCount_0f7a4 cJ6_bitCount_0f7a4 1 (some .int)) B.pre)
  have hown : s.vm.findClass RJ6 = some m.cls := findClass_of_methodNamed B.named
  have hlocks := B.notSynchronized
  have X : Cx p s m [.int x1].toArray c cJ6_bitCount_0f7a4 1 RJ6 D q := ⟨hx, hb, hml, hown, hW, hK⟩
  have hl0 := lv_entry ([.int x1]) (n := 1) (Nat.le_of_ble_eq_true rfl)
  rw [lg_entry_eq]
  generalize (lg_sl ([.int x1]) ++ List.replicate (1 - (lg_sl ([.int x1])).length) Slot.unset).toArray = ls0 at hl0 ⊢
  have hl0 : lv_has ls0 1 [(0, .int x1)] := hl0
  unfold m_J6_bitCount_0f7a4 at hm
  refine lv_iload_n hx hb dJ6_bitCount_0f7a4_0 rfl (lv_at hl0 0 rfl) ?_
  refine lv_iload_n hx hb dJ6_bitCount_0f7a4_1 rfl (lv_at hl0 0 rfl) ?_
  refine lv_iconst (v := (1 : Int32)) hx hb dJ6_bitCount_0f7a4_2 (by decide) ?_
  refine lv_iushr (v := ((x1.toUInt32 >>> ((1 : Int32).toUInt32 &&& Int32.toUInt32 31)).toInt32)) hx hb dJ6_bitCount_0f7a4_3 rfl ?_
  refine lv_ldcw (v := (1431655765 : Int32)) hx hb hown (hW _ k_686) dJ6_bitCount_0f7a4_4 ?_
  refine lv_iand hx hb dJ6_bitCount_0f7a4_7 ?_
  refine lv_isub hx hb dJ6_bitCount_0f7a4_8 ?_
  refine lv_istore_n (lv' := [(0, .int (x1 - (((x1.toUInt32 >>> ((1 : Int32).toUInt32 &&& Int32.toUInt32 31)).toInt32) &&& (1431655765 : Int32))))]) hx hb dJ6_bitCount_0f7a4_9 rfl hl0 (by decide) rfl (fun ls1 hl1 => ?_)
  clear hl0
  refine lv_iload_n hx hb dJ6_bitCount_0f7a4_10 rfl (lv_at hl1 0 rfl) ?_
  refine lv_ldcw (v := (858993459 : Int32)) hx hb hown (hW _ k_687) dJ6_bitCount_0f7a4_11 ?_
  refine lv_iand hx hb dJ6_bitCount_0f7a4_14 ?_
  refine lv_iload_n hx hb dJ6_bitCount_0f7a4_15 rfl (lv_at hl1 0 rfl) ?_
  refine lv_iconst (v := (2 : Int32)) hx hb dJ6_bitCount_0f7a4_16 (by decide) ?_
  refine lv_iushr (v := (((x1 - (((x1.toUInt32 >>> ((1 : Int32).toUInt32 &&& Int32.toUInt32 31)).toInt32) &&& (1431655765 : Int32))).toUInt32 >>> ((2 : Int32).toUInt32 &&& Int32.toUInt32 31)).toInt32)) hx hb dJ6_bitCount_0f7a4_17 rfl ?_
  refine lv_ldcw (v := (858993459 : Int32)) hx hb hown (hW _ k_687) dJ6_bitCount_0f7a4_18 ?_
  refine lv_iand hx hb dJ6_bitCount_0f7a4_21 ?_
  refine lv_iadd hx hb dJ6_bitCount_0f7a4_22 ?_
  refine lv_istore_n (lv' := [(0, .int (((x1 - (((x1.toUInt32 >>> ((1 : Int32).toUInt32 &&& Int32.toUInt32 31)).toInt32) &&& (1431655765 : Int32))) &&& (858993459 : Int32)) + ((((x1 - (((x1.toUInt32 >>> ((1 : Int32).toUInt32 &&& Int32.toUInt32 31)).toInt32) &&& (1431655765 : Int32))).toUInt32 >>> ((2 : Int32).toUInt32 &&& Int32.toUInt32 31)).toInt32) &&& (858993459 : Int32))))]) hx hb dJ6_bitCount_0f7a4_23 rfl hl1 (by decide) rfl (fun ls2 hl2 => ?_)
  clear hl1
  refine lv_iload_n hx hb dJ6_bitCount_0f7a4_24 rfl (lv_at hl2 0 rfl) ?_
  refine lv_iload_n hx hb dJ6_bitCount_0f7a4_25 rfl (lv_at hl2 0 rfl) ?_
  refine lv_iconst (v := (4 : Int32)) hx hb dJ6_bitCount_0f7a4_26 (by decide) ?_
  refine lv_iushr (v := (((((x1 - (((x1.toUInt32 >>> ((1 : Int32).toUInt32 &&& Int32.toUInt32 31)).toInt32) &&& (1431655765 : Int32))) &&& (858993459 : Int32)) + ((((x1 - (((x1.toUInt32 >>> ((1 : Int32).toUInt32 &&& Int32.toUInt32 31)).toInt32) &&& (1431655765 : Int32))).toUInt32 >>> ((2 : Int32).toUInt32 &&& Int32.toUInt32 31)).toInt32) &&& (858993459 : Int32))).toUInt32 >>> ((4 : Int32).toUInt32 &&& Int32.toUInt32 31)).toInt32)) hx hb dJ6_bitCount_0f7a4_27 rfl ?_
  refine lv_iadd hx hb dJ6_bitCount_0f7a4_28 ?_
  refine lv_ldcw (v := (252645135 : Int32)) hx hb hown (hW _ k_688) dJ6_bitCount_0f7a4_29 ?_
  refine lv_iand hx hb dJ6_bitCount_0f7a4_32 ?_
  refine lv_istore_n (lv' := [(0, .int (((((x1 - (((x1.toUInt32 >>> ((1 : Int32).toUInt32 &&& Int32.toUInt32 31)).toInt32) &&& (1431655765 : Int32))) &&& (858993459 : Int32)) + ((((x1 - (((x1.toUInt32 >>> ((1 : Int32).toUInt32 &&& Int32.toUInt32 31)).toInt32) &&& (1431655765 : Int32))).toUInt32 >>> ((2 : Int32).toUInt32 &&& Int32.toUInt32 31)).toInt32) &&& (858993459 : Int32))) + (((((x1 - (((x1.toUInt32 >>> ((1 : Int32).toUInt32 &&& Int32.toUInt32 31)).toInt32) &&& (1431655765 : Int32))) &&& (858993459 : Int32)) + ((((x1 - (((x1.toUInt32 >>> ((1 : Int32).toUInt32 &&& Int32.toUInt32 31)).toInt32) &&& (1431655765 : Int32))).toUInt32 >>> ((2 : Int32).toUInt32 &&& Int32.toUInt32 31)).toInt32) &&& (858993459 : Int32))).toUInt32 >>> ((4 : Int32).toUInt32 &&& Int32.toUInt32 31)).toInt32)) &&& (252645135 : Int32)))]) hx hb dJ6_bitCount_0f7a4_33 rfl hl2 (by decide) rfl (fun ls3 hl3 => ?_)
  clear hl2
  refine lv_iload_n hx hb dJ6_bitCount_0f7a4_34 rfl (lv_at hl3 0 rfl) ?_
  refine lv_iload_n hx hb dJ6_bitCount_0f7a4_35 rfl (lv_at hl3 0 rfl) ?_
  refine lv_bipush (v := (8 : Int32)) hx hb dJ6_bitCount_0f7a4_36 (by decide) ?_
  refine lv_iushr (v := (((((((x1 - (((x1.toUInt32 >>> ((1 : Int32).toUInt32 &&& Int32.toUInt32 31)).toInt32) &&& (1431655765 : Int32))) &&& (858993459 : Int32)) + ((((x1 - (((x1.toUInt32 >>> ((1 : Int32).toUInt32 &&& Int32.toUInt32 31)).toInt32) &&& (1431655765 : Int32))).toUInt32 >>> ((2 : Int32).toUInt32 &&& Int32.toUInt32 31)).toInt32) &&& (858993459 : Int32))) + (((((x1 - (((x1.toUInt32 >>> ((1 : Int32).toUInt32 &&& Int32.toUInt32 31)).toInt32) &&& (1431655765 : Int32))) &&& (858993459 : Int32)) + ((((x1 - (((x1.toUInt32 >>> ((1 : Int32).toUInt32 &&& Int32.toUInt32 31)).toInt32) &&& (1431655765 : Int32))).toUInt32 >>> ((2 : Int32).toUInt32 &&& Int32.toUInt32 31)).toInt32) &&& (858993459 : Int32))).toUInt32 >>> ((4 : Int32).toUInt32 &&& Int32.toUInt32 31)).toInt32)) &&& (252645135 : Int32)).toUInt32 >>> ((8 : Int32).toUInt32 &&& Int32.toUInt32 31)).toInt32)) hx hb dJ6_bitCount_0f7a4_38 rfl ?_
  refine lv_iadd hx hb dJ6_bitCount_0f7a4_39 ?_
  refine lv_istore_n (lv' := [(0, .int ((((((x1 - (((x1.toUInt32 >>> ((1 : Int32).toUInt32 &&& Int32.toUInt32 31)).toInt32) &&& (1431655765 : Int32))) &&& (858993459 : Int32)) + ((((x1 - (((x1.toUInt32 >>> ((1 : Int32).toUInt32 &&& Int32.toUInt32 31)).toInt32) &&& (1431655765 : Int32))).toUInt32 >>> ((2 : Int32).toUInt32 &&& Int32.toUInt32 31)).toInt32) &&& (858993459 : Int32))) + (((((x1 - (((x1.toUInt32 >>> ((1 : Int32).toUInt32 &&& Int32.toUInt32 31)).toInt32) &&& (1431655765 : Int32))) &&& (858993459 : Int32)) + ((((x1 - (((x1.toUInt32 >>> ((1 : Int32).toUInt32 &&& Int32.toUInt32 31)).toInt32) &&& (1431655765 : Int32))).toUInt32 >>> ((2 : Int32).toUInt32 &&& Int32.toUInt32 31)).toInt32) &&& (858993459 : Int32))).toUInt32 >>> ((4 : Int32).toUInt32 &&& Int32.toUInt32 31)).toInt32)) &&& (252645135 : Int32)) + (((((((x1 - (((x1.toUInt32 >>> ((1 : Int32).toUInt32 &&& Int32.toUInt32 31)).toInt32) &&& (1431655765 : Int32))) &&& (858993459 : Int32)) + ((((x1 - (((x1.toUInt32 >>> ((1 : Int32).toUInt32 &&& Int32.toUInt32 31)).toInt32) &&& (1431655765 : Int32))).toUInt32 >>> ((2 : Int32).toUInt32 &&& Int32.toUInt32 31)).toInt32) &&& (858993459 : Int32))) + (((((x1 - (((x1.toUInt32 >>> ((1 : Int32).toUInt32 &&& Int32.toUInt32 31)).toInt32) &&& (1431655765 : Int32))) &&& (858993459 : Int32)) + ((((x1 - (((x1.toUInt32 >>> ((1 : Int32).toUInt32 &&& Int32.toUInt32 31)).toInt32) &&& (1431655765 : Int32))).toUInt32 >>> ((2 : Int32).toUInt32 &&& Int32.toUInt32 31)).toInt32) &&& (858993459 : Int32))).toUInt32 >>> ((4 : Int32).toUInt32 &&& Int32.toUInt32 31)).toInt32)) &&& (252645135 : Int32)).toUInt32 >>> ((8 : Int32).toUInt32 &&& Int32.toUInt32 31)).toInt32)))]) hx hb dJ6_bitCount_0f7a4_40 rfl hl3 (by decide) rfl (fun ls4 hl4 => ?_)
  clear hl3
  refine lv_iload_n hx hb dJ6_bitCount_0f7a4_41 rfl (lv_at hl4 0 rfl) ?_
  refine lv_iload_n hx hb dJ6_bitCount_0f7a4_42 rfl (lv_at hl4 0 rfl) ?_
  refine lv_bipush (v := (16 : Int32)) hx hb dJ6_bitCount_0f7a4_43 (by decide) ?_
  refine lv_iushr (v := ((((((((x1 - (((x1.toUInt32 >>> ((1 : Int32).toUInt32 &&& Int32.toUInt32 31)).toInt32) &&& (1431655765 : Int32))) &&& (858993459 : Int32)) + ((((x1 - (((x1.toUInt32 >>> ((1 : Int32).toUInt32 &&& Int32.toUInt32 31)).toInt32) &&& (1431655765 : Int32))).toUInt32 >>> ((2 : Int32).toUInt32 &&& Int32.toUInt32 31)).toInt32) &&& (858993459 : Int32))) + (((((x1 - (((x1.toUInt32 >>> ((1 : Int32).toUInt32 &&& Int32.toUInt32 31)).toInt32) &&& (1431655765 : Int32))) &&& (858993459 : Int32)) + ((((x1 - (((x1.toUInt32 >>> ((1 : Int32).toUInt32 &&& Int32.toUInt32 31)).toInt32) &&& (1431655765 : Int32))).toUInt32 >>> ((2 : Int32).toUInt32 &&& Int32.toUInt32 31)).toInt32) &&& (858993459 : Int32))).toUInt32 >>> ((4 : Int32).toUInt32 &&& Int32.toUInt32 31)).toInt32)) &&& (252645135 : Int32)) + (((((((x1 - (((x1.toUInt32 >>> ((1 : Int32).toUInt32 &&& Int32.toUInt32 31)).toInt32) &&& (1431655765 : Int32))) &&& (858993459 : Int32)) + ((((x1 - (((x1.toUInt32 >>> ((1 : Int32).toUInt32 &&& Int32.toUInt32 31)).toInt32) &&& (1431655765 : Int32))).toUInt32 >>> ((2 : Int32).toUInt32 &&& Int32.toUInt32 31)).toInt32) &&& (858993459 : Int32))) + (((((x1 - (((x1.toUInt32 >>> ((1 : Int32).toUInt32 &&& Int32.toUInt32 31)).toInt32) &&& (1431655765 : Int32))) &&& (858993459 : Int32)) + ((((x1 - (((x1.toUInt32 >>> ((1 : Int32).toUInt32 &&& Int32.toUInt32 31)).toInt32) &&& (1431655765 : Int32))).toUInt32 >>> ((2 : Int32).toUInt32 &&& Int32.toUInt32 31)).toInt32) &&& (858993459 : Int32))).toUInt32 >>> ((4 : Int32).toUInt32 &&& Int32.toUInt32 31)).toInt32)) &&& (252645135 : Int32)).toUInt32 >>> ((8 : Int32).toUInt32 &&& Int32.toUInt32 31)).toInt32)).toUInt32 >>> ((16 : Int32).toUInt32 &&& Int32.toUInt32 31)).toInt32)) hx hb dJ6_bitCount_0f7a4_45 rfl ?_
  refine lv_iadd hx hb dJ6_bitCount_0f7a4_46 ?_
  refine lv_istore_n (lv' := [(0, .int (((((((x1 - (((x1.toUInt32 >>> ((1 : Int32).toUInt32 &&& Int32.toUInt32 31)).toInt32) &&& (1431655765 : Int32))) &&& (858993459 : Int32)) + ((((x1 - (((x1.toUInt32 >>> ((1 : Int32).toUInt32 &&& Int32.toUInt32 31)).toInt32) &&& (1431655765 : Int32))).toUInt32 >>> ((2 : Int32).toUInt32 &&& Int32.toUInt32 31)).toInt32) &&& (858993459 : Int32))) + (((((x1 - (((x1.toUInt32 >>> ((1 : Int32).toUInt32 &&& Int32.toUInt32 31)).toInt32) &&& (1431655765 : Int32))) &&& (858993459 : Int32)) + ((((x1 - (((x1.toUInt32 >>> ((1 : Int32).toUInt32 &&& Int32.toUInt32 31)).toInt32) &&& (1431655765 : Int32))).toUInt32 >>> ((2 : Int32).toUInt32 &&& Int32.toUInt32 31)).toInt32) &&& (858993459 : Int32))).toUInt32 >>> ((4 : Int32).toUInt32 &&& Int32.toUInt32 31)).toInt32)) &&& (252645135 : Int32)) + (((((((x1 - (((x1.toUInt32 >>> ((1 : Int32).toUInt32 &&& Int32.toUInt32 31)).toInt32) &&& (1431655765 : Int32))) &&& (858993459 : Int32)) + ((((x1 - (((x1.toUInt32 >>> ((1 : Int32).toUInt32 &&& Int32.toUInt32 31)).toInt32) &&& (1431655765 : Int32))).toUInt32 >>> ((2 : Int32).toUInt32 &&& Int32.toUInt32 31)).toInt32) &&& (858993459 : Int32))) + (((((x1 - (((x1.toUInt32 >>> ((1 : Int32).toUInt32 &&& Int32.toUInt32 31)).toInt32) &&& (1431655765 : Int32))) &&& (858993459 : Int32)) + ((((x1 - (((x1.toUInt32 >>> ((1 : Int32).toUInt32 &&& Int32.toUInt32 31)).toInt32) &&& (1431655765 : Int32))).toUInt32 >>> ((2 : Int32).toUInt32 &&& Int32.toUInt32 31)).toInt32) &&& (858993459 : Int32))).toUInt32 >>> ((4 : Int32).toUInt32 &&& Int32.toUInt32 31)).toInt32)) &&& (252645135 : Int32)).toUInt32 >>> ((8 : Int32).toUInt32 &&& Int32.toUInt32 31)).toInt32)) + ((((((((x1 - (((x1.toUInt32 >>> ((1 : Int32).toUInt32 &&& Int32.toUInt32 31)).toInt32) &&& (1431655765 : Int32))) &&& (858993459 : Int32)) + ((((x1 - (((x1.toUInt32 >>> ((1 : Int32).toUInt32 &&& Int32.toUInt32 31)).toInt32) &&& (1431655765 : Int32))).toUInt32 >>> ((2 : Int32).toUInt32 &&& Int32.toUInt32 31)).toInt32) &&& (858993459 : Int32))) + (((((x1 - (((x1.toUInt32 >>> ((1 : Int32).toUInt32 &&& Int32.toUInt32 31)).toInt32) &&& (1431655765 : Int32))) &&& (858993459 : Int32)) + ((((x1 - (((x1.toUInt32 >>> ((1 : Int32).toUInt32 &&& Int32.toUInt32 31)).toInt32) &&& (1431655765 : Int32))).toUInt32 >>> ((2 : Int32).toUInt32 &&& Int32.toUInt32 31)).toInt32) &&& (858993459 : Int32))).toUInt32 >>> ((4 : Int32).toUInt32 &&& Int32.toUInt32 31)).toInt32)) &&& (252645135 : Int32)) + (((((((x1 - (((x1.toUInt32 >>> ((1 : Int32).toUInt32 &&& Int32.toUInt32 31)).toInt32) &&& (1431655765 : Int32))) &&& (858993459 : Int32)) + ((((x1 - (((x1.toUInt32 >>> ((1 : Int32).toUInt32 &&& Int32.toUInt32 31)).toInt32) &&& (1431655765 : Int32))).toUInt32 >>> ((2 : Int32).toUInt32 &&& Int32.toUInt32 31)).toInt32) &&& (858993459 : Int32))) + (((((x1 - (((x1.toUInt32 >>> ((1 : Int32).toUInt32 &&& Int32.toUInt32 31)).toInt32) &&& (1431655765 : Int32))) &&& (858993459 : Int32)) + ((((x1 - (((x1.toUInt32 >>> ((1 : Int32).toUInt32 &&& Int32.toUInt32 31)).toInt32) &&& (1431655765 : Int32))).toUInt32 >>> ((2 : Int32).toUInt32 &&& Int32.toUInt32 31)).toInt32) &&& (858993459 : Int32))).toUInt32 >>> ((4 : Int32).toUInt32 &&& Int32.toUInt32 31)).toInt32)) &&& (252645135 : Int32)).toUInt32 >>> ((8 : Int32).toUInt32 &&& Int32.toUInt32 31)).toInt32)).toUInt32 >>> ((16 : Int32).toUInt32 &&& Int32.toUInt32 31)).toInt32)))]) hx hb dJ6_bitCount_0f7a4_47 rfl hl4 (by decide) rfl (fun ls5 hl5 => ?_)
  clear hl4
  refine lv_iload_n hx hb dJ6_bitCount_0f7a4_48 rfl (lv_at hl5 0 rfl) ?_
  refine lv_bipush (v := (63 : Int32)) hx hb dJ6_bitCount_0f7a4_49 (by decide) ?_
  refine lv_iand hx hb dJ6_bitCount_0f7a4_51 ?_
  exact eRi  X hr hlocks hm dJ6_bitCount_0f7a4_52
