noncomputable def m_X4_allowedAt_K88 (z88 : Int32 × Int32) : Option (Int32) :=
  some z88.1
noncomputable def m_X4_allowedAt_L88 (v : SV) (w : SV) (x1 : Int32) (z88 : Int32 × Int32) : Option ((Int32 × Int32) ⊕ (Int32 × Int32)) :=
  (if (v 0 2) ≤ z88.2 then some (.inr (z88.1, z88.2)) else ck (inB z88.2 6) (ck (inB z88.2 6) ((if (if (w 1 ((z88.2).toNatClampNeg)) < (w 2 ((z88.2).toNatClampNeg)) then (w 2 ((z88.2).toNatClampNeg)) else (w 1 ((z88.2).toNatClampNeg))) = x1 then ck (inB z88.2 6) (ck (inB z88.2 6) (ck (inB (if (w 2 ((z88.2).toNatClampNeg)) < (w 1 ((z88.2).toNatClampNeg)) then (w 2 ((z88.2).toNatClampNeg)) else (w 1 ((z88.2).toNatClampNeg))) 6) (ck (inB z88.2 6) ((if (w 3 ((z88.2).toNatClampNeg)) = 0 then some (.inl ((z88.1 &&& (((1 : Int32) <<< ((v 8 (((if (w 2 ((z88.2).toNatClampNeg)) < (w 1 ((z88.2).toNatClampNeg)) then (w 2 ((z88.2).toNatClampNeg)) else (w 1 ((z88.2).toNatClampNeg)))).toNatClampNeg)) &&& 31)) ^^^ (-1 : Int32))), (z88.2 + (1 : Int32)))) else some (.inl ((z88.1 &&& ((1 : Int32) <<< ((v 8 (((if (w 2 ((z88.2).toNatClampNeg)) < (w 1 ((z88.2).toNatClampNeg)) then (w 2 ((z88.2).toNatClampNeg)) else (w 1 ((z88.2).toNatClampNeg)))).toNatClampNeg)) &&& 31))), (z88.2 + (1 : Int32))))))))) else some (.inl (z88.1, (z88.2 + (1 : Int32))))))))
noncomputable def m_X4_allowedAt_K10 (v : SV) (w : SV) (x1 : Int32) (z10 : Int32 × Int32) : Option (Int32) :=
  (lpC (m_X4_allowedAt_L88 v w x1) (z10.1, (0 : Int32))).bind (m_X4_allowedAt_K88)
noncomputable def m_X4_allowedAt_L10 (v : SV) (u : SV) (x1 : Int32) (z10 : Int32 × Int32) : Option ((Int32 × Int32) ⊕ (Int32 × Int32)) :=
  (if (u 0 2) ≤ z10.2 then some (.inr (z10.1, z10.2)) else ck (inB z10.2 5) (ck (inB z10.2 5) ((if (if (u 14 ((z10.2).toNatClampNeg)) < (u 15 ((z10.2).toNatClampNeg)) then (u 15 ((z10.2).toNatClampNeg)) else (u 14 ((z10.2).toNatClampNeg))) = x1 then ck (inB z10.2 5) (ck (inB z10.2 5) (ck (inB (if (u 15 ((z10.2).toNatClampNeg)) < (u 14 ((z10.2).toNatClampNeg)) then (u 15 ((z10.2).toNatClampNeg)) else (u 14 ((z10.2).toNatClampNeg))) 6) (ck (inB (v 8 (((if (u 15 ((z10.2).toNatClampNeg)) < (u 14 ((z10.2).toNatClampNeg)) then (u 15 ((z10.2).toNatClampNeg)) else (u 14 ((z10.2).toNatClampNeg)))).toNatClampNeg)) 5) (some (.inl ((z10.1 &&& (v 7 (((v 8 (((if (u 15 ((z10.2).toNatClampNeg)) < (u 14 ((z10.2).toNatClampNeg)) then (u 15 ((z10.2).toNatClampNeg)) else (u 14 ((z10.2).toNatClampNeg)))).toNatClampNeg))).toNatClampNeg))), (z10.2 + (1 : Int32)))))))) else some (.inl (z10.1, (z10.2 + (1 : Int32))))))))
noncomputable def m_X4_allowedAt (v : SV) (u : SV) (w : SV) (x1 : Int32) : Option (Int32) :=
  (m_X3_everybody u).bind (fun y4 => (lpC (m_X4_allowedAt_L10 v u x1) (y4, (0 : Int32))).bind (m_X4_allowedAt_K10 v w x1))
set_option maxHeartbeats 4000000 in
set_option maxRecDepth 100000 in
theorem c_X4_allowedAt (l : Launch) (D : va_G) (q : Nat → ClassId) (a : Nat → Nat) (v : SV) (b : Nat → Nat) (u : SV) (ea : Nat → Nat) (w : SV) (x1 : Int32) (res : Int32) (hm : m_X4_allowedAt v u w x1 = some res) : Met l yX4_allowedAt (mw yX4_allowedAt cX4_allowedAt 5 (some .int)) ({ frames := 1, cells := 0, slots := 0, locals := 21 } : Room) (pcR D q (wX4 q a v (b 99) (ea 99) ++ (wX3 q b u ++ wX1 q ea w)) [.ref (a 99), .int x1]) (vp_Si (fun x => x = res)) 0 0 (fun _ => False) := by
  refine Met.ofW (cc := cX4_allowedAt) (maxL := 5) (ret := (some .int)) (by decide) rfl ?_
  intro p e s m args below meth c s₁ B hml hv
  obtain ⟨rfl, hP0, hK⟩ := hv
  have hx := B.exec
  have hb := B.bytes
  have hr := B.returns
  have hW := mw_ws (atoms_spec (ws := mw yX4_allowedAt cX4_allowedAt 5 (some .int)) B.pre)
  have hown : s.vm.findClass RX4 = some m.cls := findClass_of_methodNamed B.named
  have hlocks := B.notSynchronized
  have X : Cx p s m [.ref (a 99), .int x1].toArray c cX4_allowedAt 5 RX4 D q := ⟨hx, hb, hml, hown, hW, hK⟩
  have hl0 := lv_entry ([.ref (a 99), .int x1]) (n := 5) (Nat.le_of_ble_eq_true rfl)
  rw [lg_entry_eq]
  generalize (lg_sl ([.ref (a 99), .int x1]) ++ List.replicate (5 - (lg_sl ([.ref (a 99), .int x1])).length) Slot.unset).toArray = ls0 at hl0 ⊢
  have hl0 : lv_has ls0 5 [(0, .ref (a 99)), (1, .int x1)] := hl0
  unfold m_X4_allowedAt at hm
  refine lv_aload_n hx hb dX4_allowedAt_0 rfl (lv_at hl0 0 rfl) ?_
  refine va_get (D := D) (ci := 4) (v := .ref (b 99)) (C := RX4) (T := TX4) (N := 12) hx hb hW iX4 hown hK hP0 0 rfl rfl 0 (by decide) (hW _ k_251) (fun _ h => h) rfl dX4_allowedAt_1 ?_
  obtain ⟨y4, hy4, hm⟩ := bn hm
  refine cVRi (As := []) (rest := []) X hP0 hl0.1 (c_X3_everybody l D q b u y4 hy4) [6, 7, 8, 9, 10, 11, 12, 13, 14, 15, 16, 17] rfl 6 rfl rfl rfl k_660 mX3_everybody ⟨rfl, rfl⟩ ⟨Nat.le_of_ble_eq_true rfl, Nat.le_of_ble_eq_true rfl⟩ rfl rfl (Nat.le_of_ble_eq_true rfl) dX4_allowedAt_4 ⟨Nat.zero_le _, Nat.zero_le _⟩ ?_
  refine lv_istore_n (lv' := [(2, .int y4), (0, .ref (a 99)), (1, .int x1)]) hx hb dX4_allowedAt_7 rfl hl0 (by decide) rfl (fun ls1 hl1 => ?_)
  clear hl0
  refine lv_iconst (v := (0 : Int32)) hx hb dX4_allowedAt_8 (by decide) ?_
  refine lv_istore_n (lv' := [(3, .int (0 : Int32)), (2, .int y4), (0, .ref (a 99)), (1, .int x1)]) hx hb dX4_allowedAt_9 rfl hl1 (by decide) rfl (fun ls2 hl2 => ?_)
  clear hl1
  obtain ⟨r10, hr10, hm⟩ := bn hm
  obtain ⟨n10, hn10⟩ := lpC_ex hr10
  have hE10 : ∀ z10 : Int32 × Int32, m_X4_allowedAt_K10 v w x1 z10 = some res → ∀ ls : Array Slot, lv_has ls 5 [(0, .ref (a 99)), (1, .int x1), (2, .int z10.1)] → W p l e ((headSpec (mw yX4_allowedAt cX4_allowedAt 5 (some .int)) ({ frames := 1, cells := 0, slots := 0, locals := 21 } : Room)).room) s m [.ref (a 99), .int x1].toArray below meth c s.heap [] 0 0 (MQ below (vp_Si (fun x => x = res)) [.ref (a 99), .int x1].toArray s 0 0 (fun _ => False)) (F0 m 86 ls []) := by
    intro z10 hm ls4 hl4
    unfold m_X4_allowedAt_K10 at hm
    refine lv_iconst (v := (0 : Int32)) hx hb dX4_allowedAt_86 (by decide) ?_
    refine lv_istore_n (lv' := [(3, .int (0 : Int32)), (0, .ref (a 99)), (1, .int x1), (2, .int z10.1)]) hx hb dX4_allowedAt_87 rfl hl4 (by decide) rfl (fun ls5 hl5 => ?_)
    clear hl4
    obtain ⟨r88, hr88, hm⟩ := bn hm
    obtain ⟨n88, hn88⟩ := lpC_ex hr88
    have hE88 : ∀ z88 : Int32 × Int32, m_X4_allowedAt_K88 z88 = some res → ∀ ls : Array Slot, lv_has ls 5 [(2, .int z88.1)] → W p l e ((headSpec (mw yX4_allowedAt cX4_allowedAt 5 (some .int)) ({ frames := 1, cells := 0, slots := 0, locals := 21 } : Room)).room) s m [.ref (a 99), .int x1].toArray below meth c s.heap [] 0 0 (MQ below (vp_Si (fun x => x = res)) [.ref (a 99), .int x1].toArray s 0 0 (fun _ => False)) (F0 m 181 ls []) := by
      intro z88 hm ls7 hl7
      unfold m_X4_allowedAt_K88 at hm
      refine lv_iload_n hx hb dX4_allowedAt_181 rfl (lv_at hl7 0 rfl) ?_
      exact eRi  X hr hlocks hm dX4_allowedAt_182
    have hL88 : ∀ (n : Nat) (z88 : Int32 × Int32) (ρ88 : Int32 × Int32), lpO (m_X4_allowedAt_L88 v w x1) n z88 = some ρ88 → (m_X4_allowedAt_K88) ρ88 = some res → ∀ ls : Array Slot, lv_has ls 5 [(0, .ref (a 99)), (1, .int x1), (2, .int z88.1), (3, .int z88.2)] → W p l e ((headSpec (mw yX4_allowedAt cX4_allowedAt 5 (some .int)) ({ frames := 1, cells := 0, slots := 0, locals := 21 } : Room)).room) s m [.ref (a 99), .int x1].toArray below meth c s.heap [] 0 0 (MQ below (vp_Si (fun x => x = res)) [.ref (a 99), .int x1].toArray s 0 0 (fun _ => False)) (F0 m 88 ls []) := by
      intro n
      induction n with
      | zero => intro _ _ h; cases h
      | succ n ih88 =>
        intro z88 ρ88 hz88 hK88 ls6 hl6
        obtain ⟨t88, hm, hz88⟩ := bn hz88
        unfold m_X4_allowedAt_L88 at hm
        refine lv_iload_n hx hb dX4_allowedAt_88 rfl (lv_at hl6 3 rfl) ?_
        refine lv_aload_n hx hb dX4_allowedAt_89 rfl (lv_at hl6 0 rfl) ?_
        refine va_get (D := D) (ci := 4) (v := .int (v 0 2)) (C := RX4) (T := TX4) (N := 12) hx hb hW iX4 hown hK hP0 0 rfl rfl 2 (by decide) (hW _ k_253) (fun _ h => h) rfl dX4_allowedAt_90 ?_
        refine lv_icmp_ge (tgt := 181) hx hb dX4_allowedAt_93 (by decide) (fun c93 => ?_) (fun c93 => ?_)
        · replace hm := tp hm c93
          cases hm
          cases hz88
          exact hE88 (z88.1, z88.2) hK88 _ (lv_sub hl6 [2] rfl)
        · replace hm := tn hm c93
          refine lv_aload_n hx hb dX4_allowedAt_96 rfl (lv_at hl6 0 rfl) ?_
          refine va_get (D := D) (ci := 4) (v := .ref (ea 99)) (C := RX4) (T := TX4) (N := 12) hx hb hW iX4 hown hK hP0 0 rfl rfl 1 (by decide) (hW _ k_252) (fun _ h => h) rfl dX4_allowedAt_97 ?_
          refine va_get (D := D) (ci := 1) (v := .ref (ea 1)) (C := RX1) (T := TX1) (N := 4) hx hb hW iX1 hown hK hP0 18 rfl rfl 1 (by decide) (hW _ k_230) (fun _ h => h) rfl dX4_allowedAt_100 ?_
          refine lv_iload_n hx hb dX4_allowedAt_103 rfl (lv_at hl6 3 rfl) ?_
          obtain ⟨h8, hm⟩ := ckd hm
          refine va_iald (f := (w 1)) hx hb hK hP0 19 0 rfl rfl (inB_vp h8) dX4_allowedAt_104 ?_
          refine lv_aload_n hx hb dX4_allowedAt_105 rfl (lv_at hl6 0 rfl) ?_
          refine va_get (D := D) (ci := 4) (v := .ref (ea 99)) (C := RX4) (T := TX4) (N := 12) hx hb hW iX4 hown hK hP0 0 rfl rfl 1 (by decide) (hW _ k_252) (fun _ h => h) rfl dX4_allowedAt_106 ?_
          refine va_get (D := D) (ci := 1) (v := .ref (ea 2)) (C := RX1) (T := TX1) (N := 4) hx hb hW iX1 hown hK hP0 18 rfl rfl 2 (by decide) (hW _ k_232) (fun _ h => h) rfl dX4_allowedAt_109 ?_
          refine lv_iload_n hx hb dX4_allowedAt_112 rfl (lv_at hl6 3 rfl) ?_
          obtain ⟨h9, hm⟩ := ckd hm
          refine va_iald (f := (w 2)) hx hb hK hP0 20 0 rfl rfl (inB_vp h9) dX4_allowedAt_113 ?_
          refine va_mmax hx hb (by rw [X.2.2.1]; exact hl6.1.symm) hown (hW _ k_664) (hW _ k_483) (hW _ k_52) (hW _ k_484) (by exact Nat.le_of_ble_eq_true rfl) (by exact Nat.le_of_ble_eq_true rfl) (Nat.zero_le _) (Nat.zero_le _) dX4_allowedAt_114 ?_
          refine lv_iload_n hx hb dX4_allowedAt_117 rfl (lv_at hl6 1 rfl) ?_
          refine lv_icmp_ne (tgt := 175) hx hb dX4_allowedAt_118 (by decide) (fun c118 => ?_) (fun c118 => ?_)
          · replace hm := tn hm c118
            refine lv_iinc (v := (z88.2 + (1 : Int32))) (lv' := [(3, .int (z88.2 + (1 : Int32))), (0, .ref (a 99)), (1, .int x1), (2, .int z88.1)]) hx hb dX4_allowedAt_175 hl6 (k := 3) rfl rfl (by decide) rfl (fun ls19 hl19 => ?_)
            clear hl6
            refine lv_goto (tgt := 88) hx hb dX4_allowedAt_178 (by decide) ?_
            cases hm
            exact ih88 (z88.1, (z88.2 + (1 : Int32))) ρ88 hz88 hK88 _ (lv_sub hl19 [1, 2, 3, 0] rfl)
          · replace hm := tp hm c118
            refine lv_iconst (v := (1 : Int32)) hx hb dX4_allowedAt_121 (by decide) ?_
            refine lv_aload_n hx hb dX4_allowedAt_122 rfl (lv_at hl6 0 rfl) ?_
            refine va_get (D := D) (ci := 4) (v := .ref (a 8)) (C := RX4) (T := TX4) (N := 12) hx hb hW iX4 hown hK hP0 0 rfl rfl 8 (by decide) (hW _ k_260) (fun _ h => h) rfl dX4_allowedAt_123 ?_
            refine lv_aload_n hx hb dX4_allowedAt_126 rfl (lv_at hl6 0 rfl) ?_
            refine va_get (D := D) (ci := 4) (v := .ref (ea 99)) (C := RX4) (T := TX4) (N := 12) hx hb hW iX4 hown hK hP0 0 rfl rfl 1 (by decide) (hW _ k_252) (fun _ h => h) rfl dX4_allowedAt_127 ?_
            refine va_get (D := D) (ci := 1) (v := .ref (ea 1)) (C := RX1) (T := TX1) (N := 4) hx hb hW iX1 hown hK hP0 18 rfl rfl 1 (by decide) (hW _ k_230) (fun _ h => h) rfl dX4_allowedAt_130 ?_
            refine lv_iload_n hx hb dX4_allowedAt_133 rfl (lv_at hl6 3 rfl) ?_
            obtain ⟨h10, hm⟩ := ckd hm
            refine va_iald (f := (w 1)) hx hb hK hP0 19 0 rfl rfl (inB_vp h10) dX4_allowedAt_134 ?_
            refine lv_aload_n hx hb dX4_allowedAt_135 rfl (lv_at hl6 0 rfl) ?_
            refine va_get (D := D) (ci := 4) (v := .ref (ea 99)) (C := RX4) (T := TX4) (N := 12) hx hb hW iX4 hown hK hP0 0 rfl rfl 1 (by decide) (hW _ k_252) (fun _ h => h) rfl dX4_allowedAt_136 ?_
            refine va_get (D := D) (ci := 1) (v := .ref (ea 2)) (C := RX1) (T := TX1) (N := 4) hx hb hW iX1 hown hK hP0 18 rfl rfl 2 (by decide) (hW _ k_232) (fun _ h => h) rfl dX4_allowedAt_139 ?_
            refine lv_iload_n hx hb dX4_allowedAt_142 rfl (lv_at hl6 3 rfl) ?_
            obtain ⟨h11, hm⟩ := ckd hm
            refine va_iald (f := (w 2)) hx hb hK hP0 20 0 rfl rfl (inB_vp h11) dX4_allowedAt_143 ?_
            refine va_mmin hx hb (by rw [X.2.2.1]; exact hl6.1.symm) hown (hW _ k_665) (hW _ k_512) (hW _ k_52) (hW _ k_513) (by exact Nat.le_of_ble_eq_true rfl) (by exact Nat.le_of_ble_eq_true rfl) (Nat.zero_le _) (Nat.zero_le _) dX4_allowedAt_144 ?_
            obtain ⟨h12, hm⟩ := ckd hm
            refine va_iald (f := (v 8)) hx hb hK hP0 2 0 rfl rfl (inB_vp h12) dX4_allowedAt_147 ?_
            refine lv_ishl hx hb dX4_allowedAt_148 ?_
            refine lv_istore (lv' := [(4, .int ((1 : Int32) <<< ((v 8 (((if (w 2 ((z88.2).toNatClampNeg)) < (w 1 ((z88.2).toNatClampNeg)) then (w 2 ((z88.2).toNatClampNeg)) else (w 1 ((z88.2).toNatClampNeg)))).toNatClampNeg)) &&& 31))), (0, .ref (a 99)), (1, .int x1), (2, .int z88.1), (3, .int z88.2)]) hx hb dX4_allowedAt_149 hl6 (by decide) rfl (fun ls13 hl13 => ?_)
            clear hl6
            refine lv_iload_n hx hb dX4_allowedAt_151 rfl (lv_at hl13 3 rfl) ?_
            refine lv_aload_n hx hb dX4_allowedAt_152 rfl (lv_at hl13 1 rfl) ?_
            refine va_get (D := D) (ci := 4) (v := .ref (ea 99)) (C := RX4) (T := TX4) (N := 12) hx hb hW iX4 hown hK hP0 0 rfl rfl 1 (by decide) (hW _ k_252) (fun _ h => h) rfl dX4_allowedAt_153 ?_
            refine va_get (D := D) (ci := 1) (v := .ref (ea 3)) (C := RX1) (T := TX1) (N := 4) hx hb hW iX1 hown hK hP0 18 rfl rfl 3 (by decide) (hW _ k_234) (fun _ h => h) rfl dX4_allowedAt_156 ?_
            refine lv_iload_n hx hb dX4_allowedAt_159 rfl (lv_at hl13 4 rfl) ?_
            obtain ⟨h14, hm⟩ := ckd hm
            refine va_zald (f := (w 3)) hx hb hK hP0 21 2 rfl rfl (inB_vp h14) dX4_allowedAt_160 ?_
            refine lv_if_eq (tgt := 169) hx hb dX4_allowedAt_161 (by decide) (fun c161 => ?_) (fun c161 => ?_)
            · replace hm := tp hm c161
              refine lv_iload hx hb dX4_allowedAt_169 (lv_at hl13 0 rfl) ?_
              refine lv_iconst (v := (-1 : Int32)) hx hb dX4_allowedAt_171 (by decide) ?_
              refine lv_ixor hx hb dX4_allowedAt_172 ?_
              refine lv_iand hx hb dX4_allowedAt_173 ?_
              refine lv_istore_n (lv' := [(2, .int (z88.1 &&& (((1 : Int32) <<< ((v 8 (((if (w 2 ((z88.2).toNatClampNeg)) < (w 1 ((z88.2).toNatClampNeg)) then (w 2 ((z88.2).toNatClampNeg)) else (w 1 ((z88.2).toNatClampNeg)))).toNatClampNeg)) &&& 31)) ^^^ (-1 : Int32)))), (4, .int ((1 : Int32) <<< ((v 8 (((if (w 2 ((z88.2).toNatClampNeg)) < (w 1 ((z88.2).toNatClampNeg)) then (w 2 ((z88.2).toNatClampNeg)) else (w 1 ((z88.2).toNatClampNeg)))).toNatClampNeg)) &&& 31))), (0, .ref (a 99)), (1, .int x1), (3, .int z88.2)]) hx hb dX4_allowedAt_174 rfl hl13 (by decide) rfl (fun ls15 hl15 => ?_)
              clear hl13
              refine lv_iinc (v := (z88.2 + (1 : Int32))) (lv' := [(3, .int (z88.2 + (1 : Int32))), (2, .int (z88.1 &&& (((1 : Int32) <<< ((v 8 (((if (w 2 ((z88.2).toNatClampNeg)) < (w 1 ((z88.2).toNatClampNeg)) then (w 2 ((z88.2).toNatClampNeg)) else (w 1 ((z88.2).toNatClampNeg)))).toNatClampNeg)) &&& 31)) ^^^ (-1 : Int32)))), (4, .int ((1 : Int32) <<< ((v 8 (((if (w 2 ((z88.2).toNatClampNeg)) < (w 1 ((z88.2).toNatClampNeg)) then (w 2 ((z88.2).toNatClampNeg)) else (w 1 ((z88.2).toNatClampNeg)))).toNatClampNeg)) &&& 31))), (0, .ref (a 99)), (1, .int x1)]) hx hb dX4_allowedAt_175 hl15 (k := 4) rfl rfl (by decide) rfl (fun ls16 hl16 => ?_)
              clear hl15
              refine lv_goto (tgt := 88) hx hb dX4_allowedAt_178 (by decide) ?_
              cases hm
              exact ih88 ((z88.1 &&& (((1 : Int32) <<< ((v 8 (((if (w 2 ((z88.2).toNatClampNeg)) < (w 1 ((z88.2).toNatClampNeg)) then (w 2 ((z88.2).toNatClampNeg)) else (w 1 ((z88.2).toNatClampNeg)))).toNatClampNeg)) &&& 31)) ^^^ (-1 : Int32))), (z88.2 + (1 : Int32))) ρ88 hz88 hK88 _ (lv_sub hl16 [3, 4, 1, 0] rfl)
            · replace hm := tn hm c161
              refine lv_iload hx hb dX4_allowedAt_164 (lv_at hl13 0 rfl) ?_
              refine lv_goto (tgt := 173) hx hb dX4_allowedAt_166 (by decide) ?_
              refine lv_iand hx hb dX4_allowedAt_173 ?_
              refine lv_istore_n (lv' := [(2, .int (z88.1 &&& ((1 : Int32) <<< ((v 8 (((if (w 2 ((z88.2).toNatClampNeg)) < (w 1 ((z88.2).toNatClampNeg)) then (w 2 ((z88.2).toNatClampNeg)) else (w 1 ((z88.2).toNatClampNeg)))).toNatClampNeg)) &&& 31)))), (4, .int ((1 : Int32) <<< ((v 8 (((if (w 2 ((z88.2).toNatClampNeg)) < (w 1 ((z88.2).toNatClampNeg)) then (w 2 ((z88.2).toNatClampNeg)) else (w 1 ((z88.2).toNatClampNeg)))).toNatClampNeg)) &&& 31))), (0, .ref (a 99)), (1, .int x1), (3, .int z88.2)]) hx hb dX4_allowedAt_174 rfl hl13 (by decide) rfl (fun ls17 hl17 => ?_)
              clear hl13
              refine lv_iinc (v := (z88.2 + (1 : Int32))) (lv' := [(3, .int (z88.2 + (1 : Int32))), (2, .int (z88.1 &&& ((1 : Int32) <<< ((v 8 (((if (w 2 ((z88.2).toNatClampNeg)) < (w 1 ((z88.2).toNatClampNeg)) then (w 2 ((z88.2).toNatClampNeg)) else (w 1 ((z88.2).toNatClampNeg)))).toNatClampNeg)) &&& 31)))), (4, .int ((1 : Int32) <<< ((v 8 (((if (w 2 ((z88.2).toNatClampNeg)) < (w 1 ((z88.2).toNatClampNeg)) then (w 2 ((z88.2).toNatClampNeg)) else (w 1 ((z88.2).toNatClampNeg)))).toNatClampNeg)) &&& 31))), (0, .ref (a 99)), (1, .int x1)]) hx hb dX4_allowedAt_175 hl17 (k := 4) rfl rfl (by decide) rfl (fun ls18 hl18 => ?_)
              clear hl17
              refine lv_goto (tgt := 88) hx hb dX4_allowedAt_178 (by decide) ?_
              cases hm
              exact ih88 ((z88.1 &&& ((1 : Int32) <<< ((v 8 (((if (w 2 ((z88.2).toNatClampNeg)) < (w 1 ((z88.2).toNatClampNeg)) then (w 2 ((z88.2).toNatClampNeg)) else (w 1 ((z88.2).toNatClampNeg)))).toNatClampNeg)) &&& 31))), (z88.2 + (1 : Int32))) ρ88 hz88 hK88 _ (lv_sub hl18 [3, 4, 1, 0] rfl)
    exact hL88 n88 (z10.1, (0 : Int32)) r88 hn88 hm _ (lv_sub hl5 [1, 2, 3, 0] rfl)
  have hL10 : ∀ (n : Nat) (z10 : Int32 × Int32) (ρ10 : Int32 × Int32), lpO (m_X4_allowedAt_L10 v u x1) n z10 = some ρ10 → (m_X4_allowedAt_K10 v w x1) ρ10 = some res → ∀ ls : Array Slot, lv_has ls 5 [(0, .ref (a 99)), (1, .int x1), (2, .int z10.1), (3, .int z10.2)] → W p l e ((headSpec (mw yX4_allowedAt cX4_allowedAt 5 (some .int)) ({ frames := 1, cells := 0, slots := 0, locals := 21 } : Room)).room) s m [.ref (a 99), .int x1].toArray below meth c s.heap [] 0 0 (MQ below (vp_Si (fun x => x = res)) [.ref (a 99), .int x1].toArray s 0 0 (fun _ => False)) (F0 m 10 ls []) := by
    intro n
    induction n with
    | zero => intro _ _ h; cases h
    | succ n ih10 =>
      intro z10 ρ10 hz10 hK10 ls3 hl3
      obtain ⟨t10, hm, hz10⟩ := bn hz10
      unfold m_X4_allowedAt_L10 at hm
      refine lv_iload_n hx hb dX4_allowedAt_10 rfl (lv_at hl3 3 rfl) ?_
      refine lv_aload_n hx hb dX4_allowedAt_11 rfl (lv_at hl3 0 rfl) ?_
      refine va_get (D := D) (ci := 4) (v := .ref (b 99)) (C := RX4) (T := TX4) (N := 12) hx hb hW iX4 hown hK hP0 0 rfl rfl 0 (by decide) (hW _ k_251) (fun _ h => h) rfl dX4_allowedAt_12 ?_
      refine va_get (D := D) (ci := 3) (v := .int (u 0 2)) (C := RX3) (T := TX3) (N := 17) hx hb hW iX3 hown hK hP0 6 rfl rfl 2 (by decide) (hW _ k_93) (fun _ h => h) rfl dX4_allowedAt_15 ?_
      refine lv_icmp_ge (tgt := 86) hx hb dX4_allowedAt_18 (by decide) (fun c18 => ?_) (fun c18 => ?_)
      · replace hm := tp hm c18
        cases hm
        cases hz10
        exact hE10 (z10.1, z10.2) hK10 _ (lv_sub hl3 [0, 1, 2] rfl)
      · replace hm := tn hm c18
        refine lv_aload_n hx hb dX4_allowedAt_21 rfl (lv_at hl3 0 rfl) ?_
        refine va_get (D := D) (ci := 4) (v := .ref (b 99)) (C := RX4) (T := TX4) (N := 12) hx hb hW iX4 hown hK hP0 0 rfl rfl 0 (by decide) (hW _ k_251) (fun _ h => h) rfl dX4_allowedAt_22 ?_
        refine va_get (D := D) (ci := 3) (v := .ref (b 14)) (C := RX3) (T := TX3) (N := 17) hx hb hW iX3 hown hK hP0 6 rfl rfl 14 (by decide) (hW _ k_129) (fun _ h => h) rfl dX4_allowedAt_25 ?_
        refine lv_iload_n hx hb dX4_allowedAt_28 rfl (lv_at hl3 3 rfl) ?_
        obtain ⟨h20, hm⟩ := ckd hm
        refine va_iald (f := (u 14)) hx hb hK hP0 15 0 rfl rfl (inB_vp h20) dX4_allowedAt_29 ?_
        refine lv_aload_n hx hb dX4_allowedAt_30 rfl (lv_at hl3 0 rfl) ?_
        refine va_get (D := D) (ci := 4) (v := .ref (b 99)) (C := RX4) (T := TX4) (N := 12) hx hb hW iX4 hown hK hP0 0 rfl rfl 0 (by decide) (hW _ k_251) (fun _ h => h) rfl dX4_allowedAt_31 ?_
        refine va_get (D := D) (ci := 3) (v := .ref (b 15)) (C := RX3) (T := TX3) (N := 17) hx hb hW iX3 hown hK hP0 6 rfl rfl 15 (by decide) (hW _ k_133) (fun _ h => h) rfl dX4_allowedAt_34 ?_
        refine lv_iload_n hx hb dX4_allowedAt_37 rfl (lv_at hl3 3 rfl) ?_
        obtain ⟨h21, hm⟩ := ckd hm
        refine va_iald (f := (u 15)) hx hb hK hP0 16 0 rfl rfl (inB_vp h21) dX4_allowedAt_38 ?_
        refine va_mmax hx hb (by rw [X.2.2.1]; exact hl3.1.symm) hown (hW _ k_664) (hW _ k_483) (hW _ k_52) (hW _ k_484) (by exact Nat.le_of_ble_eq_true rfl) (by exact Nat.le_of_ble_eq_true rfl) (Nat.zero_le _) (Nat.zero_le _) dX4_allowedAt_39 ?_
        refine lv_iload_n hx hb dX4_allowedAt_42 rfl (lv_at hl3 1 rfl) ?_
        refine lv_icmp_ne (tgt := 80) hx hb dX4_allowedAt_43 (by decide) (fun c43 => ?_) (fun c43 => ?_)
        · replace hm := tn hm c43
          refine lv_iinc (v := (z10.2 + (1 : Int32))) (lv' := [(3, .int (z10.2 + (1 : Int32))), (0, .ref (a 99)), (1, .int x1), (2, .int z10.1)]) hx hb dX4_allowedAt_80 hl3 (k := 3) rfl rfl (by decide) rfl (fun ls28 hl28 => ?_)
          clear hl3
          refine lv_goto (tgt := 10) hx hb dX4_allowedAt_83 (by decide) ?_
          cases hm
          exact ih10 (z10.1, (z10.2 + (1 : Int32))) ρ10 hz10 hK10 _ (lv_sub hl28 [1, 2, 3, 0] rfl)
        · replace hm := tp hm c43
          refine lv_iload_n hx hb dX4_allowedAt_46 rfl (lv_at hl3 2 rfl) ?_
          refine lv_aload_n hx hb dX4_allowedAt_47 rfl (lv_at hl3 0 rfl) ?_
          refine va_get (D := D) (ci := 4) (v := .ref (a 7)) (C := RX4) (T := TX4) (N := 12) hx hb hW iX4 hown hK hP0 0 rfl rfl 7 (by decide) (hW _ k_259) (fun _ h => h) rfl dX4_allowedAt_48 ?_
          refine lv_aload_n hx hb dX4_allowedAt_51 rfl (lv_at hl3 0 rfl) ?_
          refine va_get (D := D) (ci := 4) (v := .ref (a 8)) (C := RX4) (T := TX4) (N := 12) hx hb hW iX4 hown hK hP0 0 rfl rfl 8 (by decide) (hW _ k_260) (fun _ h => h) rfl dX4_allowedAt_52 ?_
          refine lv_aload_n hx hb dX4_allowedAt_55 rfl (lv_at hl3 0 rfl) ?_
          refine va_get (D := D) (ci := 4) (v := .ref (b 99)) (C := RX4) (T := TX4) (N := 12) hx hb hW iX4 hown hK hP0 0 rfl rfl 0 (by decide) (hW _ k_251) (fun _ h => h) rfl dX4_allowedAt_56 ?_
          refine va_get (D := D) (ci := 3) (v := .ref (b 14)) (C := RX3) (T := TX3) (N := 17) hx hb hW iX3 hown hK hP0 6 rfl rfl 14 (by decide) (hW _ k_129) (fun _ h => h) rfl dX4_allowedAt_59 ?_
          refine lv_iload_n hx hb dX4_allowedAt_62 rfl (lv_at hl3 3 rfl) ?_
          obtain ⟨h22, hm⟩ := ckd hm
          refine va_iald (f := (u 14)) hx hb hK hP0 15 0 rfl rfl (inB_vp h22) dX4_allowedAt_63 ?_
          refine lv_aload_n hx hb dX4_allowedAt_64 rfl (lv_at hl3 0 rfl) ?_
          refine va_get (D := D) (ci := 4) (v := .ref (b 99)) (C := RX4) (T := TX4) (N := 12) hx hb hW iX4 hown hK hP0 0 rfl rfl 0 (by decide) (hW _ k_251) (fun _ h => h) rfl dX4_allowedAt_65 ?_
          refine va_get (D := D) (ci := 3) (v := .ref (b 15)) (C := RX3) (T := TX3) (N := 17) hx hb hW iX3 hown hK hP0 6 rfl rfl 15 (by decide) (hW _ k_133) (fun _ h => h) rfl dX4_allowedAt_68 ?_
          refine lv_iload_n hx hb dX4_allowedAt_71 rfl (lv_at hl3 3 rfl) ?_
          obtain ⟨h23, hm⟩ := ckd hm
          refine va_iald (f := (u 15)) hx hb hK hP0 16 0 rfl rfl (inB_vp h23) dX4_allowedAt_72 ?_
          refine va_mmin hx hb (by rw [X.2.2.1]; exact hl3.1.symm) hown (hW _ k_665) (hW _ k_512) (hW _ k_52) (hW _ k_513) (by exact Nat.le_of_ble_eq_true rfl) (by exact Nat.le_of_ble_eq_true rfl) (Nat.zero_le _) (Nat.zero_le _) dX4_allowedAt_73 ?_
          obtain ⟨h24, hm⟩ := ckd hm
          refine va_iald (f := (v 8)) hx hb hK hP0 2 0 rfl rfl (inB_vp h24) dX4_allowedAt_76 ?_
          obtain ⟨h25, hm⟩ := ckd hm
          refine va_iald (f := (v 7)) hx hb hK hP0 1 0 rfl rfl (inB_vp h25) dX4_allowedAt_77 ?_
          refine lv_iand hx hb dX4_allowedAt_78 ?_
          refine lv_istore_n (lv' := [(2, .int (z10.1 &&& (v 7 (((v 8 (((if (u 15 ((z10.2).toNatClampNeg)) < (u 14 ((z10.2).toNatClampNeg)) then (u 15 ((z10.2).toNatClampNeg)) else (u 14 ((z10.2).toNatClampNeg)))).toNatClampNeg))).toNatClampNeg)))), (0, .ref (a 99)), (1, .int x1), (3, .int z10.2)]) hx hb dX4_allowedAt_79 rfl hl3 (by decide) rfl (fun ls26 hl26 => ?_)
          clear hl3
          refine lv_iinc (v := (z10.2 + (1 : Int32))) (lv' := [(3, .int (z10.2 + (1 : Int32))), (2, .int (z10.1 &&& (v 7 (((v 8 (((if (u 15 ((z10.2).toNatClampNeg)) < (u 14 ((z10.2).toNatClampNeg)) then (u 15 ((z10.2).toNatClampNeg)) else (u 14 ((z10.2).toNatClampNeg)))).toNatClampNeg))).toNatClampNeg)))), (0, .ref (a 99)), (1, .int x1)]) hx hb dX4_allowedAt_80 hl26 (k := 3) rfl rfl (by decide) rfl (fun ls27 hl27 => ?_)
          clear hl26
          refine lv_goto (tgt := 10) hx hb dX4_allowedAt_83 (by decide) ?_
          cases hm
          exact ih10 ((z10.1 &&& (v 7 (((v 8 (((if (u 15 ((z10.2).toNatClampNeg)) < (u 14 ((z10.2).toNatClampNeg)) then (u 15 ((z10.2).toNatClampNeg)) else (u 14 ((z10.2).toNatClampNeg)))).toNatClampNeg))).toNatClampNeg))), (z10.2 + (1 : Int32))) ρ10 hz10 hK10 _ (lv_sub hl27 [2, 3, 1, 0] rfl)
  exact hL10 n10 (y4, (0 : Int32)) r10 hn10 hm _ (lv_sub hl2 [2, 3, 1, 0] rfl)
noncomputable def m_X4_open (v : SV) (u : SV) (w : SV) (x1 : Int32) : Option (SV) :=
  lett (up2 v 0 5 x1) (fun v1_ => ck (inB x1 6) (lett (up2 v1_ 8 ((x1).toNatClampNeg) (-1 : Int32)) (fun v3_ => (m_X4_allowedAt v3_ u w x1).bind (fun y19 => ck (inB x1 6) (lett (up2 v3_ 9 ((x1).toNatClampNeg) y19) (fun v5_ => some v5_))))))
set_option maxHeartbeats 4000000 in
set_option maxRecDepth 100000 in
theorem c_X4_open (l : Launch) (D : va_G) (q : Nat → ClassId) (sz : Nat) (a : Nat → Nat) (v : SV) (b : Nat → Nat) (u : SV) (ea : Nat → Nat) (w : SV) (x1 : Int32) (res : SV) (hm : m_X4_open v u w x1 = some res) : Met l yX4_open (mw yX4_open cX4_open 2 none) ({ frames := 2, cells := 0, slots := 0, locals := 45 } : Room) (pcW D q (wX4 q a v (b 99) (ea 99) ++ (wX3 q b u ++ wX1 q ea w)) sz [.ref (a 99), .int x1]) (va_Qv (fun w => w = res) (bW D q (wX4 q a v (b 99) (ea 99) ++ (wX3 q b u ++ wX1 q ea w)) sz (fun (uu : SV) => wX4 q a uu (b 99) (ea 99) ++ (wX3 q b u ++ wX1 q ea w))) (va_A (wX4 q a v (b 99) (ea 99) ++ (wX3 q b u ++ wX1 q ea w)) sz)) 0 0 (va_A (wX4 q a v (b 99) (ea 99) ++ (wX3 q b u ++ wX1 q ea w)) sz) := by
  refine Met.ofW (cc := cX4_open) (maxL := 2) (ret := none) (by decide) rfl ?_
  intro p e s m args below meth c s₁ B hml hv
  obtain ⟨rfl, hsz, hP0, hK, hD0⟩ := hv
  have hx := B.exec
  have hb := B.bytes
  have hr := B.returns
  have hW := mw_ws (atoms_spec (ws := mw yX4_open cX4_open 2 none) B.pre)
  have hown : s.vm.findClass RX4 = some m.cls := findClass_of_methodNamed B.named
  have hlocks := B.notSynchronized
  have X : Cx p s m [.ref (a 99), .int x1].toArray c cX4_open 2 RX4 D q := ⟨hx, hb, hml, hown, hW, hK⟩
  subst hsz
  replace hD0 := hD0.self (sz := s.heap.size)
  have hS0 : va_S (va_A (wX4 q a v (b 99) (ea 99) ++ (wX3 q b u ++ wX1 q ea w)) s.heap.size) s.heap s.heap [] := va_S.rf
  have hl0 := lv_entry ([.ref (a 99), .int x1]) (n := 2) (Nat.le_of_ble_eq_true rfl)
  rw [lg_entry_eq]
  generalize (lg_sl ([.ref (a 99), .int x1]) ++ List.replicate (2 - (lg_sl ([.ref (a 99), .int x1])).length) Slot.unset).toArray = ls0 at hl0 ⊢
  have hl0 : lv_has ls0 2 [(0, .ref (a 99)), (1, .int x1)] := hl0
  unfold m_X4_open at hm
  refine lv_aload_n hx hb dX4_open_0 rfl (lv_at hl0 0 rfl) ?_
  refine lv_iload_n hx hb dX4_open_1 rfl (lv_at hl0 1 rfl) ?_
  refine va_put (D := D) (ci := 4) (v := .int x1) (ty := .int) (C := RX4) (T := TX4) (N := 12) hx hb hW iX4 tyX4 tyX4_ok nmX4 hown hK hP0 hD0 hS0 0 rfl rfl 5 (by decide) (hW _ k_257) (fun _ h => h) rfl (by decide +kernel) rfl rfl (Nat.le_of_ble_eq_true rfl) dX4_open_2 (fun H1 locs1 hP hD hS1 => ?_)
  obtain ⟨v1_, e1, hm⟩ := ltd hm
  have hP1 : va_P D cls (wX4 q a v1_ (b 99) (ea 99) ++ (wX3 q b u ++ wX1 q ea w)) H1 := by rw [e1]; exact hP
  have hD1 : va_D (va_A (wX4 q a v (b 99) (ea 99) ++ (wX3 q b u ++ wX1 q ea w)) s.heap.size) (wX4 q a v1_ (b 99) (ea 99) ++ (wX3 q b u ++ wX1 q ea w)) := by rw [e1]; exact hD
  clear hP hD hP0 hD0 hS0
  refine lv_aload_n hx hb dX4_open_5 rfl (lv_at hl0 0 rfl) ?_
  refine va_get (D := D) (ci := 4) (v := .ref (a 8)) (C := RX4) (T := TX4) (N := 12) hx hb hW iX4 hown hK hP1 0 rfl rfl 8 (by decide) (hW _ k_260) (fun _ h => h) rfl dX4_open_6 ?_
  refine lv_iload_n hx hb dX4_open_9 rfl (lv_at hl0 1 rfl) ?_
  refine lv_iconst (v := (-1 : Int32)) hx hb dX4_open_10 (by decide) ?_
  obtain ⟨h2, hm⟩ := ckd hm
  refine va_iast (f := (v1_ 8)) hx hb hK hP1 hD1 hS1 2 0 rfl rfl (inB_vp h2) dX4_open_11 (fun H3 locs3 hP hD hS3 => ?_)
  obtain ⟨v3_, e3, hm⟩ := ltd hm
  have hP3 : va_P D cls (wX4 q a v3_ (b 99) (ea 99) ++ (wX3 q b u ++ wX1 q ea w)) H3 := by rw [e3]; exact hP
  have hD3 : va_D (va_A (wX4 q a v (b 99) (ea 99) ++ (wX3 q b u ++ wX1 q ea w)) s.heap.size) (wX4 q a v3_ (b 99) (ea 99) ++ (wX3 q b u ++ wX1 q ea w)) := by rw [e3]; exact hD
  clear hP hD hP1 hD1 hS1
  refine lv_aload_n hx hb dX4_open_12 rfl (lv_at hl0 0 rfl) ?_
  refine va_get (D := D) (ci := 4) (v := .ref (a 9)) (C := RX4) (T := TX4) (N := 12) hx hb hW iX4 hown hK hP3 0 rfl rfl 9 (by decide) (hW _ k_261) (fun _ h => h) rfl dX4_open_13 ?_
  refine lv_iload_n hx hb dX4_open_16 rfl (lv_at hl0 1 rfl) ?_
  refine lv_aload_n hx hb dX4_open_17 rfl (lv_at hl0 0 rfl) ?_
  refine lv_iload_n hx hb dX4_open_18 rfl (lv_at hl0 1 rfl) ?_
  obtain ⟨y19, hy19, hm⟩ := bn hm
  refine cVRi (As := [.int x1]) (rest := [.int x1, .ref (a 9)]) X hP3 hl0.1 (c_X4_allowedAt l D q a v3_ b u ea w x1 y19 hy19) [0, 1, 2, 3, 4, 5, 6, 7, 8, 9, 10, 11, 12, 13, 14, 15, 16, 17, 18, 19, 20, 21] rfl 0 rfl rfl rfl k_656 mX4_allowedAt ⟨rfl, rfl⟩ ⟨Nat.le_of_ble_eq_true rfl, Nat.le_of_ble_eq_true rfl⟩ rfl rfl (Nat.le_of_ble_eq_true rfl) dX4_open_19 ⟨Nat.zero_le _, Nat.zero_le _⟩ ?_
  obtain ⟨h4, hm⟩ := ckd hm
  refine va_iast (f := (v3_ 9)) hx hb hK hP3 hD3 hS3 3 0 rfl rfl (inB_vp h4) dX4_open_22 (fun H5 locs5 hP hD hS5 => ?_)
  obtain ⟨v5_, e5, hm⟩ := ltd hm
  have hP5 : va_P D cls (wX4 q a v5_ (b 99) (ea 99) ++ (wX3 q b u ++ wX1 q ea w)) H5 := by rw [e5]; exact hP
  have hD5 : va_D (va_A (wX4 q a v (b 99) (ea 99) ++ (wX3 q b u ++ wX1 q ea w)) s.heap.size) (wX4 q a v5_ (b 99) (ea 99) ++ (wX3 q b u ++ wX1 q ea w)) := by rw [e5]; exact hD
  clear hP hD hP3 hD3 hS3
  exact eWv (Wf := fun (uu : SV) => wX4 q a uu (b 99) (ea 99) ++ (wX3 q b u ++ wX1 q ea w)) (u := v5_) X hr hlocks hP5 hD5 hS5 hm dX4_open_23
noncomputable def m_X4_begin_K53 (u : SV) (w : SV) (z53 : Int32 × SV) : Option (SV) :=
  (m_X4_open z53.2 u w (0 : Int32)).bind (fun y122 => some y122)
noncomputable def m_X4_begin_K73 (z53 : Int32 × SV) (z73 : Int32 × SV) : Option ((Int32 × SV) ⊕ (Int32 × SV)) :=
  some (.inl ((z53.1 + (1 : Int32)), z73.2))
noncomputable def m_X4_begin_L73 (u : SV) (z53 : Int32 × SV) (z73 : Int32 × SV) : Option ((Int32 × SV) ⊕ (Int32 × SV)) :=
  (if (u 0 1) ≤ z73.1 then some (.inr (z73.1, z73.2)) else (m_X3_areLike u z53.1 z73.1).bind (fun y90 => (if y90 = 0 then some (.inl ((z73.1 + (1 : Int32)), z73.2)) else ck (inB z53.1 5) (ck (inB z53.1 5) (lett (up2 z73.2 7 ((z53.1).toNatClampNeg) ((z73.2 7 ((z53.1).toNatClampNeg)) ||| ((1 : Int32) <<< (z73.1 &&& 31)))) (fun v25_ => some (.inl ((z73.1 + (1 : Int32)), v25_))))))))
noncomputable def m_X4_begin_L53 (u : SV) (z53 : Int32 × SV) : Option ((Int32 × SV) ⊕ (Int32 × SV)) :=
  (if (u 0 1) ≤ z53.1 then some (.inr (z53.1, z53.2)) else ck (inB z53.1 5) (lett (up2 z53.2 7 ((z53.1).toNatClampNeg) (0 : Int32)) (fun v15_ => (lpC (m_X4_begin_L73 u z53) ((0 : Int32), v15_)).bind (m_X4_begin_K73 z53))))
noncomputable def m_X4_begin_J16 (v : SV) (u : SV) (w : SV) (z16 : Int32) : Option (SV) :=
  lett (up2 v 0 2 z16) (fun v3_ => lett (up2 v3_ 0 3 (6 : Int32)) (fun v4_ => lett (up2 v4_ 0 4 (1000 : Int32)) (fun v5_ => lett (up2 v5_ 0 6 (u 0 0)) (fun v6_ => (m_J7_fill_53178 30 (v6_ 11) (0 : Int32)).bind (fun y48 => lett (upr v6_ 11 y48) (fun v7_ => (lpC (m_X4_begin_L53 u) ((0 : Int32), v7_)).bind (m_X4_begin_K53 u w)))))))
noncomputable def m_X4_begin (v : SV) (u : SV) (w : SV) (x1 : Int32) : Option (SV) :=
  (if x1 = 0 then m_X4_begin_J16 v u w (0 : Int32) else m_X4_begin_J16 v u w (w 0 0))
set_option maxHeartbeats 4000000 in
set_option maxRecDepth 100000 in
theorem c_X4_begin (l : Launch) (D : va_G) (q : Nat → ClassId) (sz : Nat) (a : Nat → Nat) (v : SV) (b : Nat → Nat) (u : SV) (ea : Nat → Nat) (w : SV) (x1 : Int32) (res : SV) (hm : m_X4_begin v u w x1 = some res) : Met l yX4_begin (mw yX4_begin cX4_begin 4 none) ({ frames := 3, cells := 0, slots := 0, locals := 66 } : Room) (pcW D q (wX4 q a v (b 99) (ea 99) ++ (wX3 q b u ++ wX1 q ea w)) sz [.ref (a 99), .int x1]) (va_Qv (fun w => w = res) (bW D q (wX4 q a v (b 99) (ea 99) ++ (wX3 q b u ++ wX1 q ea w)) sz (fun (uu : SV) => wX4 q a uu (b 99) (ea 99) ++ (wX3 q b u ++ wX1 q ea w))) (va_A (wX4 q a v (b 99) (ea 99) ++ (wX3 q b u ++ wX1 q ea w)) sz)) 0 0 (va_A (wX4 q a v (b 99) (ea 99) ++ (wX3 q b u ++ wX1 q ea w)) sz) := by
  refine Met.ofW (cc := cX4_begin) (maxL := 4) (ret := none) (by decide) rfl ?_
  intro p e s m args below meth c s₁ B hml hv
  obtain ⟨rfl, hsz, hP0, hK, hD0⟩ := hv
  have hx := B.exec
  have hb := B.bytes
  have hr := B.returns
  have hW := mw_ws (atoms_spec (ws := mw yX4_begin cX4_begin 4 none) B.pre)
  have hown : s.vm.findClass RX4 = some m.cls := findClass_of_methodNamed B.named
  have hlocks := B.notSynchronized
  have X : Cx p s m [.ref (a 99), .int x1].toArray c cX4_begin 4 RX4 D q := ⟨hx, hb, hml, hown, hW, hK⟩
  subst hsz
  replace hD0 := hD0.self (sz := s.heap.size)
  have hS0 : va_S (va_A (wX4 q a v (b 99) (ea 99) ++ (wX3 q b u ++ wX1 q ea w)) s.heap.size) s.heap s.heap [] := va_S.rf
  have hl0 := lv_entry ([.ref (a 99), .int x1]) (n := 4) (Nat.le_of_ble_eq_true rfl)
  rw [lg_entry_eq]
  generalize (lg_sl ([.ref (a 99), .int x1]) ++ List.replicate (4 - (lg_sl ([.ref (a 99), .int x1])).length) Slot.unset).toArray = ls0 at hl0 ⊢
  have hl0 : lv_has ls0 4 [(0, .ref (a 99)), (1, .int x1)] := hl0
  unfold m_X4_begin at hm
  refine lv_aload_n hx hb dX4_begin_0 rfl (lv_at hl0 0 rfl) ?_
  refine lv_iload_n hx hb dX4_begin_1 rfl (lv_at hl0 1 rfl) ?_
  have hJ16 : ∀ z16 : Int32, m_X4_begin_J16 v u w z16 = some res → ∀ (H : Heap) (locs : List Loc), va_P D cls (wX4 q a v (b 99) (ea 99) ++ (wX3 q b u ++ wX1 q ea w)) H → va_D (va_A (wX4 q a v (b 99) (ea 99) ++ (wX3 q b u ++ wX1 q ea w)) s.heap.size) (wX4 q a v (b 99) (ea 99) ++ (wX3 q b u ++ wX1 q ea w)) → va_S (va_A (wX4 q a v (b 99) (ea 99) ++ (wX3 q b u ++ wX1 q ea w)) s.heap.size) s.heap H locs → ∀ ls : Array Slot, lv_has ls 4 [(0, .ref (a 99))] → W p l e ((headSpec (mw yX4_begin cX4_begin 4 none) ({ frames := 3, cells := 0, slots := 0, locals := 66 } : Room)).room) s m [.ref (a 99), .int x1].toArray below meth c H locs 0 0 (MQ below (va_Qv (fun w => w = res) (bW D q (wX4 q a v (b 99) (ea 99) ++ (wX3 q b u ++ wX1 q ea w)) s.heap.size (fun (uu : SV) => wX4 q a uu (b 99) (ea 99) ++ (wX3 q b u ++ wX1 q ea w))) (va_A (wX4 q a v (b 99) (ea 99) ++ (wX3 q b u ++ wX1 q ea w)) s.heap.size)) [.ref (a 99), .int x1].toArray s 0 0 (va_A (wX4 q a v (b 99) (ea 99) ++ (wX3 q b u ++ wX1 q ea w)) s.heap.size)) (F0 m 16 ls [.int z16, .ref (a 99)]) := by
    intro z16 hm H2 locs2 hP2 hD2 hS2 ls1 hl1
    unfold m_X4_begin_J16 at hm
    refine va_put (D := D) (ci := 4) (v := .int z16) (ty := .int) (C := RX4) (T := TX4) (N := 12) hx hb hW iX4 tyX4 tyX4_ok nmX4 hown hK hP2 hD2 hS2 0 rfl rfl 2 (by decide) (hW _ k_253) (fun _ h => h) rfl (by decide +kernel) rfl rfl (Nat.le_of_ble_eq_true rfl) dX4_begin_16 (fun H3 locs3 hP hD hS3 => ?_)
    obtain ⟨v3_, e3, hm⟩ := ltd hm
    have hP3 : va_P D cls (wX4 q a v3_ (b 99) (ea 99) ++ (wX3 q b u ++ wX1 q ea w)) H3 := by rw [e3]; exact hP
    have hD3 : va_D (va_A (wX4 q a v (b 99) (ea 99) ++ (wX3 q b u ++ wX1 q ea w)) s.heap.size) (wX4 q a v3_ (b 99) (ea 99) ++ (wX3 q b u ++ wX1 q ea w)) := by rw [e3]; exact hD
    clear hP hD hP2 hD2 hS2
    refine lv_aload_n hx hb dX4_begin_19 rfl (lv_at hl1 0 rfl) ?_
    refine lv_bipush (v := (6 : Int32)) hx hb dX4_begin_20 (by decide) ?_
    refine va_put (D := D) (ci := 4) (v := .int (6 : Int32)) (ty := .int) (C := RX4) (T := TX4) (N := 12) hx hb hW iX4 tyX4 tyX4_ok nmX4 hown hK hP3 hD3 hS3 0 rfl rfl 3 (by decide) (hW _ k_254) (fun _ h => h) rfl (by decide +kernel) rfl rfl (Nat.le_of_ble_eq_true rfl) dX4_begin_22 (fun H4 locs4 hP hD hS4 => ?_)
    obtain ⟨v4_, e4, hm⟩ := ltd hm
    have hP4 : va_P D cls (wX4 q a v4_ (b 99) (ea 99) ++ (wX3 q b u ++ wX1 q ea w)) H4 := by rw [e4]; exact hP
    have hD4 : va_D (va_A (wX4 q a v (b 99) (ea 99) ++ (wX3 q b u ++ wX1 q ea w)) s.heap.size) (wX4 q a v4_ (b 99) (ea 99) ++ (wX3 q b u ++ wX1 q ea w)) := by rw [e4]; exact hD
    clear hP hD hP3 hD3 hS3
    refine lv_aload_n hx hb dX4_begin_25 rfl (lv_at hl1 0 rfl) ?_
    refine lv_sipush (v := (1000 : Int32)) hx hb dX4_begin_26 (by decide) ?_
    refine va_put (D := D) (ci := 4) (v := .int (1000 : Int32)) (ty := .int) (C := RX4) (T := TX4) (N := 12) hx hb hW iX4 tyX4 tyX4_ok nmX4 hown hK hP4 hD4 hS4 0 rfl rfl 4 (by decide) (hW _ k_256) (fun _ h => h) rfl (by decide +kernel) rfl rfl (Nat.le_of_ble_eq_true rfl) dX4_begin_29 (fun H5 locs5 hP hD hS5 => ?_)
    obtain ⟨v5_, e5, hm⟩ := ltd hm
    have hP5 : va_P D cls (wX4 q a v5_ (b 99) (ea 99) ++ (wX3 q b u ++ wX1 q ea w)) H5 := by rw [e5]; exact hP
    have hD5 : va_D (va_A (wX4 q a v (b 99) (ea 99) ++ (wX3 q b u ++ wX1 q ea w)) s.heap.size) (wX4 q a v5_ (b 99) (ea 99) ++ (wX3 q b u ++ wX1 q ea w)) := by rw [e5]; exact hD
    clear hP hD hP4 hD4 hS4
    refine lv_aload_n hx hb dX4_begin_32 rfl (lv_at hl1 0 rfl) ?_
    refine lv_aload_n hx hb dX4_begin_33 rfl (lv_at hl1 0 rfl) ?_
    refine va_get (D := D) (ci := 4) (v := .ref (b 99)) (C := RX4) (T := TX4) (N := 12) hx hb hW iX4 hown hK hP5 0 rfl rfl 0 (by decide) (hW _ k_251) (fun _ h => h) rfl dX4_begin_34 ?_
    refine va_get (D := D) (ci := 3) (v := .int (u 0 0)) (C := RX3) (T := TX3) (N := 17) hx hb hW iX3 hown hK hP5 6 rfl rfl 0 (by decide) (hW _ k_83) (fun _ h => h) rfl dX4_begin_37 ?_
    refine va_put (D := D) (ci := 4) (v := .int (u 0 0)) (ty := .int) (C := RX4) (T := TX4) (N := 12) hx hb hW iX4 tyX4 tyX4_ok nmX4 hown hK hP5 hD5 hS5 0 rfl rfl 6 (by decide) (hW _ k_258) (fun _ h => h) rfl (by decide +kernel) rfl rfl (Nat.le_of_ble_eq_true rfl) dX4_begin_40 (fun H6 locs6 hP hD hS6 => ?_)
    obtain ⟨v6_, e6, hm⟩ := ltd hm
    have hP6 : va_P D cls (wX4 q a v6_ (b 99) (ea 99) ++ (wX3 q b u ++ wX1 q ea w)) H6 := by rw [e6]; exact hP
    have hD6 : va_D (va_A (wX4 q a v (b 99) (ea 99) ++ (wX3 q b u ++ wX1 q ea w)) s.heap.size) (wX4 q a v6_ (b 99) (ea 99) ++ (wX3 q b u ++ wX1 q ea w)) := by rw [e6]; exact hD
    clear hP hD hP5 hD5 hS5
    refine lv_aload_n hx hb dX4_begin_43 rfl (lv_at hl1 0 rfl) ?_
    refine va_get (D := D) (ci := 4) (v := .ref (a 11)) (C := RX4) (T := TX4) (N := 12) hx hb hW iX4 hown hK hP6 0 rfl rfl 11 (by decide) (hW _ k_263) (fun _ h => h) rfl dX4_begin_44 ?_
    refine lv_iconst (v := (0 : Int32)) hx hb dX4_begin_47 (by decide) ?_
    obtain ⟨y48, hy48, hm⟩ := bn hm
    refine cSWv (As := [.ref (a 11), .int (0 : Int32)]) (rest := []) (Wn := fun (uu : (Nat → Int32)) => wX4 q a (upr v6_ 11 uu) (b 99) (ea 99) ++ (wX3 q b u ++ wX1 q ea w)) X hP6 hD6 hS6 (fun _ h => Or.inr h) hl1.1 (c_J7_fill_53178 l D q H6.size (a 11) 30 (v6_ 11) (0 : Int32) y48 hy48) [5] [0, 1, 2, 3, 4, 6, 7, 8, 9, 10, 11, 12, 13, 14, 15, 16, 17, 18, 19, 20, 21] [0, 1, 2, 3, 4, 21, 5, 6, 7, 8, 9, 10, 11, 12, 13, 14, 15, 16, 17, 18, 19, 20] rfl (Wr := [0, 1, 2, 3, 4, 6, 7, 8, 9, 10, 11, 12, 13, 14, 15, 16, 17, 18, 19, 20, 21].filterMap (fun i => (wX4 q a v6_ (b 99) (ea 99) ++ (wX3 q b u ++ wX1 q ea w))[i]?)) rfl (by decide) (by decide) (by decide) (by decide) (fun _ => rfl) k_650 mJ7_fill_53178 ⟨rfl, rfl⟩ ⟨Nat.le_of_ble_eq_true rfl, Nat.le_of_ble_eq_true rfl⟩ rfl rfl (Nat.le_of_ble_eq_true rfl) dX4_begin_48 ⟨Nat.zero_le _, Nat.zero_le _⟩ (fun H7 locs7 hP hD hS7 => ?_)
    obtain ⟨v7_, e7, hm⟩ := ltd hm
    have hP7 : va_P D cls (wX4 q a v7_ (b 99) (ea 99) ++ (wX3 q b u ++ wX1 q ea w)) H7 := by rw [e7]; exact hP
    have hD7 : va_D (va_A (wX4 q a v (b 99) (ea 99) ++ (wX3 q b u ++ wX1 q ea w)) s.heap.size) (wX4 q a v7_ (b 99) (ea 99) ++ (wX3 q b u ++ wX1 q ea w)) := by rw [e7]; exact hD
    clear hP hD hP6 hD6 hS6
    refine lv_iconst (v := (0 : Int32)) hx hb dX4_begin_51 (by decide) ?_
    refine lv_istore_n (lv' := [(2, .int (0 : Int32)), (0, .ref (a 99))]) hx hb dX4_begin_52 rfl hl1 (by decide) rfl (fun ls8 hl8 => ?_)
    clear hl1
    obtain ⟨r53, hr53, hm⟩ := bn hm
    obtain ⟨n53, hn53⟩ := lpC_ex hr53
    have hE53 : ∀ z53 : Int32 × SV, m_X4_begin_K53 u w z53 = some res → ∀ (H : Heap) (locs : List Loc), va_P D cls (wX4 q a z53.2 (b 99) (ea 99) ++ (wX3 q b u ++ wX1 q ea w)) H → va_D (va_A (wX4 q a v (b 99) (ea 99) ++ (wX3 q b u ++ wX1 q ea w)) s.heap.size) (wX4 q a z53.2 (b 99) (ea 99) ++ (wX3 q b u ++ wX1 q ea w)) → va_S (va_A (wX4 q a v (b 99) (ea 99) ++ (wX3 q b u ++ wX1 q ea w)) s.heap.size) s.heap H locs → ∀ ls : Array Slot, lv_has ls 4 [(0, .ref (a 99))] → W p l e ((headSpec (mw yX4_begin cX4_begin 4 none) ({ frames := 3, cells := 0, slots := 0, locals := 66 } : Room)).room) s m [.ref (a 99), .int x1].toArray below meth c H locs 0 0 (MQ below (va_Qv (fun w => w = res) (bW D q (wX4 q a v (b 99) (ea 99) ++ (wX3 q b u ++ wX1 q ea w)) s.heap.size (fun (uu : SV) => wX4 q a uu (b 99) (ea 99) ++ (wX3 q b u ++ wX1 q ea w))) (va_A (wX4 q a v (b 99) (ea 99) ++ (wX3 q b u ++ wX1 q ea w)) s.heap.size)) [.ref (a 99), .int x1].toArray s 0 0 (va_A (wX4 q a v (b 99) (ea 99) ++ (wX3 q b u ++ wX1 q ea w)) s.heap.size)) (F0 m 120 ls []) := by
      intro z53 hm H12 locs12 hP12 hD12 hS12 ls11 hl11
      unfold m_X4_begin_K53 at hm
      refine lv_aload_n hx hb dX4_begin_120 rfl (lv_at hl11 0 rfl) ?_
      refine lv_iconst (v := (0 : Int32)) hx hb dX4_begin_121 (by decide) ?_
      obtain ⟨y122, hy122, hm⟩ := bn hm
      refine cVWv (As := [.int (0 : Int32)]) (rest := []) (Wn := fun (uu : SV) => wX4 q a uu (b 99) (ea 99) ++ (wX3 q b u ++ wX1 q ea w)) X hP12 hD12 hS12 (fun _ h => Or.inr h) hl11.1 (c_X4_open l D q H12.size a z53.2 b u ea w (0 : Int32) y122 hy122) [0, 1, 2, 3, 4, 5, 6, 7, 8, 9, 10, 11, 12, 13, 14, 15, 16, 17, 18, 19, 20, 21] [] [0, 1, 2, 3, 4, 5, 6, 7, 8, 9, 10, 11, 12, 13, 14, 15, 16, 17, 18, 19, 20, 21] rfl (Wr := []) rfl (by decide) (by decide) (by decide) (by decide) (fun _ => rfl) 0 rfl rfl rfl k_652 mX4_open ⟨rfl, rfl⟩ ⟨Nat.le_of_ble_eq_true rfl, Nat.le_of_ble_eq_true rfl⟩ rfl rfl (Nat.le_of_ble_eq_true rfl) dX4_begin_122 ⟨Nat.zero_le _, Nat.zero_le _⟩ (fun H13 locs13 hP hD hS13 => ?_)
      have hP13 : va_P D cls (wX4 q a y122 (b 99) (ea 99) ++ (wX3 q b u ++ wX1 q ea w)) H13 := hP
      have hD13 : va_D (va_A (wX4 q a v (b 99) (ea 99) ++ (wX3 q b u ++ wX1 q ea w)) s.heap.size) (wX4 q a y122 (b 99) (ea 99) ++ (wX3 q b u ++ wX1 q ea w)) := hD
      clear hP hD hP12 hD12 hS12
      exact eWv (Wf := fun (uu : SV) => wX4 q a uu (b 99) (ea 99) ++ (wX3 q b u ++ wX1 q ea w)) (u := y122) X hr hlocks hP13 hD13 hS13 hm dX4_begin_125
    have hL53 : ∀ (n : Nat) (z53 : Int32 × SV) (ρ53 : Int32 × SV), lpO (m_X4_begin_L53 u) n z53 = some ρ53 → (m_X4_begin_K53 u w) ρ53 = some res → ∀ (H : Heap) (locs : List Loc), va_P D cls (wX4 q a z53.2 (b 99) (ea 99) ++ (wX3 q b u ++ wX1 q ea w)) H → va_D (va_A (wX4 q a v (b 99) (ea 99) ++ (wX3 q b u ++ wX1 q ea w)) s.heap.size) (wX4 q a z53.2 (b 99) (ea 99) ++ (wX3 q b u ++ wX1 q ea w)) → va_S (va_A (wX4 q a v (b 99) (ea 99) ++ (wX3 q b u ++ wX1 q ea w)) s.heap.size) s.heap H locs → ∀ ls : Array Slot, lv_has ls 4 [(0, .ref (a 99)), (2, .int z53.1)] → W p l e ((headSpec (mw yX4_begin cX4_begin 4 none) ({ frames := 3, cells := 0, slots := 0, locals := 66 } : Room)).room) s m [.ref (a 99), .int x1].toArray below meth c H locs 0 0 (MQ below (va_Qv (fun w => w = res) (bW D q (wX4 q a v (b 99) (ea 99) ++ (wX3 q b u ++ wX1 q ea w)) s.heap.size (fun (uu : SV) => wX4 q a uu (b 99) (ea 99) ++ (wX3 q b u ++ wX1 q ea w))) (va_A (wX4 q a v (b 99) (ea 99) ++ (wX3 q b u ++ wX1 q ea w)) s.heap.size)) [.ref (a 99), .int x1].toArray s 0 0 (va_A (wX4 q a v (b 99) (ea 99) ++ (wX3 q b u ++ wX1 q ea w)) s.heap.size)) (F0 m 53 ls []) := by
      intro n
      induction n with
      | zero => intro _ _ h; cases h
      | succ n ih53 =>
        intro z53 ρ53 hz53 hK53 H10 locs10 hP10 hD10 hS10 ls9 hl9
        obtain ⟨t53, hm, hz53⟩ := bn hz53
        unfold m_X4_begin_L53 at hm
        refine lv_iload_n hx hb dX4_begin_53 rfl (lv_at hl9 1 rfl) ?_
        refine lv_aload_n hx hb dX4_begin_54 rfl (lv_at hl9 0 rfl) ?_
        refine va_get (D := D) (ci := 4) (v := .ref (b 99)) (C := RX4) (T := TX4) (N := 12) hx hb hW iX4 hown hK hP10 0 rfl rfl 0 (by decide) (hW _ k_251) (fun _ h => h) rfl dX4_begin_55 ?_
        refine va_get (D := D) (ci := 3) (v := .int (u 0 1)) (C := RX3) (T := TX3) (N := 17) hx hb hW iX3 hown hK hP10 6 rfl rfl 1 (by decide) (hW _ k_87) (fun _ h => h) rfl dX4_begin_58 ?_
        refine lv_icmp_ge (tgt := 120) hx hb dX4_begin_61 (by decide) (fun c61 => ?_) (fun c61 => ?_)
        · replace hm := tp hm c61
          cases hm
          cases hz53
          exact hE53 (z53.1, z53.2) hK53 _ _ hP10 hD10 hS10 _ (lv_sub hl9 [0] rfl)
        · replace hm := tn hm c61
          refine lv_aload_n hx hb dX4_begin_64 rfl (lv_at hl9 0 rfl) ?_
          refine va_get (D := D) (ci := 4) (v := .ref (a 7)) (C := RX4) (T := TX4) (N := 12) hx hb hW iX4 hown hK hP10 0 rfl rfl 7 (by decide) (hW _ k_259) (fun _ h => h) rfl dX4_begin_65 ?_
          refine lv_iload_n hx hb dX4_begin_68 rfl (lv_at hl9 1 rfl) ?_
          refine lv_iconst (v := (0 : Int32)) hx hb dX4_begin_69 (by decide) ?_
          obtain ⟨h14, hm⟩ := ckd hm
          refine va_iast (f := (z53.2 7)) hx hb hK hP10 hD10 hS10 1 0 rfl rfl (inB_vp h14) dX4_begin_70 (fun H15 locs15 hP hD hS15 => ?_)
          obtain ⟨v15_, e15, hm⟩ := ltd hm
          have hP15 : va_P D cls (wX4 q a v15_ (b 99) (ea 99) ++ (wX3 q b u ++ wX1 q ea w)) H15 := by rw [e15]; exact hP
          have hD15 : va_D (va_A (wX4 q a v (b 99) (ea 99) ++ (wX3 q b u ++ wX1 q ea w)) s.heap.size) (wX4 q a v15_ (b 99) (ea 99) ++ (wX3 q b u ++ wX1 q ea w)) := by rw [e15]; exact hD
          clear hP hD hP10 hD10 hS10
          refine lv_iconst (v := (0 : Int32)) hx hb dX4_begin_71 (by decide) ?_
          refine lv_istore_n (lv' := [(3, .int (0 : Int32)), (0, .ref (a 99)), (2, .int z53.1)]) hx hb dX4_begin_72 rfl hl9 (by decide) rfl (fun ls16 hl16 => ?_)
          clear hl9
          obtain ⟨r73, hr73, hm⟩ := bn hm
          obtain ⟨n73, hn73⟩ := lpC_ex hr73
          have hE73 : ∀ z73 : Int32 × SV, m_X4_begin_K73 z53 z73 = some t53 → ∀ (H : Heap) (locs : List Loc), va_P D cls (wX4 q a z73.2 (b 99) (ea 99) ++ (wX3 q b u ++ wX1 q ea w)) H → va_D (va_A (wX4 q a v (b 99) (ea 99) ++ (wX3 q b u ++ wX1 q ea w)) s.heap.size) (wX4 q a z73.2 (b 99) (ea 99) ++ (wX3 q b u ++ wX1 q ea w)) → va_S (va_A (wX4 q a v (b 99) (ea 99) ++ (wX3 q b u ++ wX1 q ea w)) s.heap.size) s.heap H locs → ∀ ls : Array Slot, lv_has ls 4 [(0, .ref (a 99)), (2, .int z53.1)] → W p l e ((headSpec (mw yX4_begin cX4_begin 4 none) ({ frames := 3, cells := 0, slots := 0, locals := 66 } : Room)).room) s m [.ref (a 99), .int x1].toArray below meth c H locs 0 0 (MQ below (va_Qv (fun w => w = res) (bW D q (wX4 q a v (b 99) (ea 99) ++ (wX3 q b u ++ wX1 q ea w)) s.heap.size (fun (uu : SV) => wX4 q a uu (b 99) (ea 99) ++ (wX3 q b u ++ wX1 q ea w))) (va_A (wX4 q a v (b 99) (ea 99) ++ (wX3 q b u ++ wX1 q ea w)) s.heap.size)) [.ref (a 99), .int x1].toArray s 0 0 (va_A (wX4 q a v (b 99) (ea 99) ++ (wX3 q b u ++ wX1 q ea w)) s.heap.size)) (F0 m 114 ls []) := by
            intro z73 hm H20 locs20 hP20 hD20 hS20 ls19 hl19
            unfold m_X4_begin_K73 at hm
            refine lv_iinc (v := (z53.1 + (1 : Int32))) (lv' := [(2, .int (z53.1 + (1 : Int32))), (0, .ref (a 99))]) hx hb dX4_begin_114 hl19 (k := 1) rfl rfl (by decide) rfl (fun ls21 hl21 => ?_)
            clear hl19
            refine lv_goto (tgt := 53) hx hb dX4_begin_117 (by decide) ?_
            cases hm
            exact ih53 ((z53.1 + (1 : Int32)), z73.2) ρ53 hz53 hK53 _ _ hP20 hD20 hS20 _ (lv_sub hl21 [1, 0] rfl)
          have hL73 : ∀ (n : Nat) (z73 : Int32 × SV) (ρ73 : Int32 × SV), lpO (m_X4_begin_L73 u z53) n z73 = some ρ73 → (m_X4_begin_K73 z53) ρ73 = some t53 → ∀ (H : Heap) (locs : List Loc), va_P D cls (wX4 q a z73.2 (b 99) (ea 99) ++ (wX3 q b u ++ wX1 q ea w)) H → va_D (va_A (wX4 q a v (b 99) (ea 99) ++ (wX3 q b u ++ wX1 q ea w)) s.heap.size) (wX4 q a z73.2 (b 99) (ea 99) ++ (wX3 q b u ++ wX1 q ea w)) → va_S (va_A (wX4 q a v (b 99) (ea 99) ++ (wX3 q b u ++ wX1 q ea w)) s.heap.size) s.heap H locs → ∀ ls : Array Slot, lv_has ls 4 [(0, .ref (a 99)), (2, .int z53.1), (3, .int z73.1)] → W p l e ((headSpec (mw yX4_begin cX4_begin 4 none) ({ frames := 3, cells := 0, slots := 0, locals := 66 } : Room)).room) s m [.ref (a 99), .int x1].toArray below meth c H locs 0 0 (MQ below (va_Qv (fun w => w = res) (bW D q (wX4 q a v (b 99) (ea 99) ++ (wX3 q b u ++ wX1 q ea w)) s.heap.size (fun (uu : SV) => wX4 q a uu (b 99) (ea 99) ++ (wX3 q b u ++ wX1 q ea w))) (va_A (wX4 q a v (b 99) (ea 99) ++ (wX3 q b u ++ wX1 q ea w)) s.heap.size)) [.ref (a 99), .int x1].toArray s 0 0 (va_A (wX4 q a v (b 99) (ea 99) ++ (wX3 q b u ++ wX1 q ea w)) s.heap.size)) (F0 m 73 ls []) := by
            intro n
            induction n with
            | zero => intro _ _ h; cases h
            | succ n ih73 =>
              intro z73 ρ73 hz73 hK73 H18 locs18 hP18 hD18 hS18 ls17 hl17
              obtain ⟨t73, hm, hz73⟩ := bn hz73
              unfold m_X4_begin_L73 at hm
              refine lv_iload_n hx hb dX4_begin_73 rfl (lv_at hl17 2 rfl) ?_
              refine lv_aload_n hx hb dX4_begin_74 rfl (lv_at hl17 0 rfl) ?_
              refine va_get (D := D) (ci := 4) (v := .ref (b 99)) (C := RX4) (T := TX4) (N := 12) hx hb hW iX4 hown hK hP18 0 rfl rfl 0 (by decide) (hW _ k_251) (fun _ h => h) rfl dX4_begin_75 ?_
              refine va_get (D := D) (ci := 3) (v := .int (u 0 1)) (C := RX3) (T := TX3) (N := 17) hx hb hW iX3 hown hK hP18 6 rfl rfl 1 (by decide) (hW _ k_87) (fun _ h => h) rfl dX4_begin_78 ?_
              refine lv_icmp_ge (tgt := 114) hx hb dX4_begin_81 (by decide) (fun c81 => ?_) (fun c81 => ?_)
              · replace hm := tp hm c81
                cases hm
                cases hz73
                exact hE73 (z73.1, z73.2) hK73 _ _ hP18 hD18 hS18 _ (lv_sub hl17 [0, 1] rfl)
              · replace hm := tn hm c81
                refine lv_aload_n hx hb dX4_begin_84 rfl (lv_at hl17 0 rfl) ?_
                refine va_get (D := D) (ci := 4) (v := .ref (b 99)) (C := RX4) (T := TX4) (N := 12) hx hb hW iX4 hown hK hP18 0 rfl rfl 0 (by decide) (hW _ k_251) (fun _ h => h) rfl dX4_begin_85 ?_
                refine lv_iload_n hx hb dX4_begin_88 rfl (lv_at hl17 1 rfl) ?_
                refine lv_iload_n hx hb dX4_begin_89 rfl (lv_at hl17 2 rfl) ?_
                obtain ⟨y90, hy90, hm⟩ := bn hm
                refine cVRi (As := [.int z53.1, .int z73.1]) (rest := []) X hP18 hl17.1 (c_X3_areLike l D q b u z53.1 z73.1 y90 hy90) [6, 7, 8, 9, 10, 11, 12, 13, 14, 15, 16, 17] rfl 6 rfl rfl rfl k_651 mX3_areLike ⟨rfl, rfl⟩ ⟨Nat.le_of_ble_eq_true rfl, Nat.le_of_ble_eq_true rfl⟩ rfl rfl (Nat.le_of_ble_eq_true rfl) dX4_begin_90 ⟨Nat.zero_le _, Nat.zero_le _⟩ ?_
                refine lv_if_eq (tgt := 108) hx hb dX4_begin_93 (by decide) (fun c93 => ?_) (fun c93 => ?_)
                · replace hm := tp hm c93
                  refine lv_iinc (v := (z73.1 + (1 : Int32))) (lv' := [(3, .int (z73.1 + (1 : Int32))), (0, .ref (a 99)), (2, .int z53.1)]) hx hb dX4_begin_108 hl17 (k := 2) rfl rfl (by decide) rfl (fun ls22 hl22 => ?_)
                  clear hl17
                  refine lv_goto (tgt := 73) hx hb dX4_begin_111 (by decide) ?_
                  cases hm
                  exact ih73 ((z73.1 + (1 : Int32)), z73.2) ρ73 hz73 hK73 _ _ hP18 hD18 hS18 _ (lv_sub hl22 [1, 2, 0] rfl)
                · replace hm := tn hm c93
                  refine lv_aload_n hx hb dX4_begin_96 rfl (lv_at hl17 0 rfl) ?_
                  refine va_get (D := D) (ci := 4) (v := .ref (a 7)) (C := RX4) (T := TX4) (N := 12) hx hb hW iX4 hown hK hP18 0 rfl rfl 7 (by decide) (hW _ k_259) (fun _ h => h) rfl dX4_begin_97 ?_
                  refine lv_iload_n hx hb dX4_begin_100 rfl (lv_at hl17 1 rfl) ?_
                  refine lv_dup2_11 hx hb dX4_begin_101 rfl rfl ?_
                  obtain ⟨h23, hm⟩ := ckd hm
                  refine va_iald (f := (z73.2 7)) hx hb hK hP18 1 0 rfl rfl (inB_vp h23) dX4_begin_102 ?_
                  refine lv_iconst (v := (1 : Int32)) hx hb dX4_begin_103 (by decide) ?_
                  refine lv_iload_n hx hb dX4_begin_104 rfl (lv_at hl17 2 rfl) ?_
                  refine lv_ishl hx hb dX4_begin_105 ?_
                  refine lv_ior hx hb dX4_begin_106 ?_
                  obtain ⟨h24, hm⟩ := ckd hm
                  refine va_iast (f := (z73.2 7)) hx hb hK hP18 hD18 hS18 1 0 rfl rfl (inB_vp h24) dX4_begin_107 (fun H25 locs25 hP hD hS25 => ?_)
                  obtain ⟨v25_, e25, hm⟩ := ltd hm
                  have hP25 : va_P D cls (wX4 q a v25_ (b 99) (ea 99) ++ (wX3 q b u ++ wX1 q ea w)) H25 := by rw [e25]; exact hP
                  have hD25 : va_D (va_A (wX4 q a v (b 99) (ea 99) ++ (wX3 q b u ++ wX1 q ea w)) s.heap.size) (wX4 q a v25_ (b 99) (ea 99) ++ (wX3 q b u ++ wX1 q ea w)) := by rw [e25]; exact hD
                  clear hP hD hP18 hD18 hS18
                  refine lv_iinc (v := (z73.1 + (1 : Int32))) (lv' := [(3, .int (z73.1 + (1 : Int32))), (0, .ref (a 99)), (2, .int z53.1)]) hx hb dX4_begin_108 hl17 (k := 2) rfl rfl (by decide) rfl (fun ls26 hl26 => ?_)
                  clear hl17
                  refine lv_goto (tgt := 73) hx hb dX4_begin_111 (by decide) ?_
                  cases hm
                  exact ih73 ((z73.1 + (1 : Int32)), v25_) ρ73 hz73 hK73 _ _ hP25 hD25 hS25 _ (lv_sub hl26 [1, 2, 0] rfl)
          exact hL73 n73 ((0 : Int32), v15_) r73 hn73 hm _ _ hP15 hD15 hS15 _ (lv_sub hl16 [1, 2, 0] rfl)
    exact hL53 n53 ((0 : Int32), v7_) r53 hn53 hm _ _ hP7 hD7 hS7 _ (lv_sub hl8 [1, 0] rfl)
  refine lv_if_eq (tgt := 15) hx hb dX4_begin_2 (by decide) (fun c2 => ?_) (fun c2 => ?_)
  · replace hm := tp hm c2
    refine lv_iconst (v := (0 : Int32)) hx hb dX4_begin_15 (by decide) ?_
    exact hJ16 (0 : Int32) hm _ _ hP0 hD0 hS0 _ (lv_sub hl0 [0] rfl)
  · replace hm := tn hm c2
    refine lv_aload_n hx hb dX4_begin_5 rfl (lv_at hl0 0 rfl) ?_
    refine va_get (D := D) (ci := 4) (v := .ref (ea 99)) (C := RX4) (T := TX4) (N := 12) hx hb hW iX4 hown hK hP0 0 rfl rfl 1 (by decide) (hW _ k_252) (fun _ h => h) rfl dX4_begin_6 ?_
    refine va_get (D := D) (ci := 1) (v := .int (w 0 0)) (C := RX1) (T := TX1) (N := 4) hx hb hW iX1 hown hK hP0 18 rfl rfl 0 (by decide) (hW _ k_227) (fun _ h => h) rfl dX4_begin_9 ?_
    refine lv_goto (tgt := 16) hx hb dX4_begin_12 (by decide) ?_
    exact hJ16 (w 0 0) hm _ _ hP0 hD0 hS0 _ (lv_sub hl0 [0] rfl)
noncomputable def m_X4_priceChanges_K2 (z2 : Int32 × SV) : Option (SV) :=
  some z2.2
noncomputable def m_X4_priceChanges_K15 (z2 : Int32 × SV) (z15 : Int32 × SV) : Option ((Int32 × SV) ⊕ (Int32 × SV)) :=
  some (.inl ((z2.1 + (1 : Int32)), z15.2))
noncomputable def m_X4_priceChanges_L15 (u : SV) (z2 : Int32 × SV) (z15 : Int32 × SV) : Option ((Int32 × SV) ⊕ (Int32 × SV)) :=
  (if (u 0 1) ≤ z15.1 then some (.inr (z15.1, z15.2)) else (m_X3_top u z2.1).bind (fun y40 => (if y40 = z15.1 then ck (inB ((z2.1 * (5 : Int32)) + z15.1) 30) (lett (up2 z15.2 11 ((((z2.1 * (5 : Int32)) + z15.1)).toNatClampNeg) (0 : Int32)) (fun v13_ => some (.inl ((z15.1 + (1 : Int32)), v13_)))) else ck (inB ((z2.1 * (5 : Int32)) + z15.1) 30) (lett (up2 z15.2 11 ((((z2.1 * (5 : Int32)) + z15.1)).toNatClampNeg) (1 : Int32)) (fun v16_ => some (.inl ((z15.1 + (1 : Int32)), v16_)))))))
noncomputable def m_X4_priceChanges_L2 (u : SV) (z2 : Int32 × SV) : Option ((Int32 × SV) ⊕ (Int32 × SV)) :=
  (if (u 0 0) ≤ z2.1 then some (.inr (z2.1, z2.2)) else (lpC (m_X4_priceChanges_L15 u z2) ((0 : Int32), z2.2)).bind (m_X4_priceChanges_K15 z2))
noncomputable def m_X4_priceChanges (v : SV) (u : SV) (w : SV) : Option (SV) :=
  (lpC (m_X4_priceChanges_L2 u) ((0 : Int32), v)).bind (m_X4_priceChanges_K2)
set_option maxHeartbeats 4000000 in
set_option maxRecDepth 100000 in
theorem c_X4_priceChanges (l : Launch) (D : va_G) (q : Nat → ClassId) (sz : Nat) (a : Nat → Nat) (v : SV) (b : Nat → Nat) (u : SV) (ea : Nat → Nat) (w : SV) (res : SV) (hm : m_X4_priceChanges v u w = some res) : Met l yX4_priceChanges (mw yX4_priceChanges cX4_priceChanges 3 none) ({ frames := 2, cells := 0, slots := 0, locals := 42 } : Room) (pcW D q (wX4 q a v (b 99) (ea 99) ++ (wX3 q b u ++ wX1 q ea w)) sz [.ref (a 99)]) (va_Qv (fun w => w = res) (bW D q (wX4 q a v (b 99) (ea 99) ++ (wX3 q b u ++ wX1 q ea w)) sz (fun (uu : SV) => wX4 q a uu (b 99) (ea 99) ++ (wX3 q b u ++ wX1 q ea w))) (va_A (wX4 q a v (b 99) (ea 99) ++ (wX3 q b u ++ wX1 q ea w)) sz)) 0 0 (va_A (wX4 q a v (b 99) (ea 99) ++ (wX3 q b u ++ wX1 q ea w)) sz) := by
  refine Met.ofW (cc := cX4_priceChanges) (maxL := 3) (ret := none) (by decide) rfl ?_
  intro p e s m args below meth c s₁ B hml hv
  obtain ⟨rfl, hsz, hP0, hK, hD0⟩ := hv
  have hx := B.exec
  have hb := B.bytes
  have hr := B.returns
  have hW := mw_ws (atoms_spec (ws := mw yX4_priceChanges cX4_priceChanges 3 none) B.pre)
  have hown : s.vm.findClass RX4 = some m.cls := findClass_of_methodNamed B.named
  have hlocks := B.notSynchronized
  have X : Cx p s m [.ref (a 99)].toArray c cX4_priceChanges 3 RX4 D q := ⟨hx, hb, hml, hown, hW, hK⟩
  subst hsz
  replace hD0 := hD0.self (sz := s.heap.size)
  have hS0 : va_S (va_A (wX4 q a v (b 99) (ea 99) ++ (wX3 q b u ++ wX1 q ea w)) s.heap.size) s.heap s.heap [] := va_S.rf
  have hl0 := lv_entry ([.ref (a 99)]) (n := 3) (Nat.le_of_ble_eq_true rfl)
  rw [lg_entry_eq]
  generalize (lg_sl ([.ref (a 99)]) ++ List.replicate (3 - (lg_sl ([.ref (a 99)])).length) Slot.unset).toArray = ls0 at hl0 ⊢
  have hl0 : lv_has ls0 3 [(0, .ref (a 99))] := hl0
  unfold m_X4_priceChanges at hm
  refine lv_iconst (v := (0 : Int32)) hx hb dX4_priceChanges_0 (by decide) ?_
  refine lv_istore_n (lv' := [(1, .int (0 : Int32)), (0, .ref (a 99))]) hx hb dX4_priceChanges_1 rfl hl0 (by decide) rfl (fun ls1 hl1 => ?_)
  clear hl0
  obtain ⟨r2, hr2, hm⟩ := bn hm
  obtain ⟨n2, hn2⟩ := lpC_ex hr2
  have hE2 : ∀ z2 : Int32 × SV, m_X4_priceChanges_K2 z2 = some res → ∀ (H : Heap) (locs : List Loc), va_P D cls (wX4 q a z2.2 (b 99) (ea 99) ++ (wX3 q b u ++ wX1 q ea w)) H → va_D (va_A (wX4 q a v (b 99) (ea 99) ++ (wX3 q b u ++ wX1 q ea w)) s.heap.size) (wX4 q a z2.2 (b 99) (ea 99) ++ (wX3 q b u ++ wX1 q ea w)) → va_S (va_A (wX4 q a v (b 99) (ea 99) ++ (wX3 q b u ++ wX1 q ea w)) s.heap.size) s.heap H locs → ∀ ls : Array Slot, lv_has ls 3 [] → W p l e ((headSpec (mw yX4_priceChanges cX4_priceChanges 3 none) ({ frames := 2, cells := 0, slots := 0, locals := 42 } : Room)).room) s m [.ref (a 99)].toArray below meth c H locs 0 0 (MQ below (va_Qv (fun w => w = res) (bW D q (wX4 q a v (b 99) (ea 99) ++ (wX3 q b u ++ wX1 q ea w)) s.heap.size (fun (uu : SV) => wX4 q a uu (b 99) (ea 99) ++ (wX3 q b u ++ wX1 q ea w))) (va_A (wX4 q a v (b 99) (ea 99) ++ (wX3 q b u ++ wX1 q ea w)) s.heap.size)) [.ref (a 99)].toArray s 0 0 (va_A (wX4 q a v (b 99) (ea 99) ++ (wX3 q b u ++ wX1 q ea w)) s.heap.size)) (F0 m 65 ls []) := by
    intro z2 hm H5 locs5 hP5 hD5 hS5 ls4 hl4
    unfold m_X4_priceChanges_K2 at hm
    exact eWv (Wf := fun (uu : SV) => wX4 q a uu (b 99) (ea 99) ++ (wX3 q b u ++ wX1 q ea w)) (u := z2.2) X hr hlocks hP5 hD5 hS5 hm dX4_priceChanges_65
  have hL2 : ∀ (n : Nat) (z2 : Int32 × SV) (ρ2 : Int32 × SV), lpO (m_X4_priceChanges_L2 u) n z2 = some ρ2 → (m_X4_priceChanges_K2) ρ2 = some res → ∀ (H : Heap) (locs : List Loc), va_P D cls (wX4 q a z2.2 (b 99) (ea 99) ++ (wX3 q b u ++ wX1 q ea w)) H → va_D (va_A (wX4 q a v (b 99) (ea 99) ++ (wX3 q b u ++ wX1 q ea w)) s.heap.size) (wX4 q a z2.2 (b 99) (ea 99) ++ (wX3 q b u ++ wX1 q ea w)) → va_S (va_A (wX4 q a v (b 99) (ea 99) ++ (wX3 q b u ++ wX1 q ea w)) s.heap.size) s.heap H locs → ∀ ls : Array Slot, lv_has ls 3 [(0, .ref (a 99)), (1, .int z2.1)] → W p l e ((headSpec (mw yX4_priceChanges cX4_priceChanges 3 none) ({ frames := 2, cells := 0, slots := 0, locals := 42 } : Room)).room) s m [.ref (a 99)].toArray below meth c H locs 0 0 (MQ below (va_Qv (fun w => w = res) (bW D q (wX4 q a v (b 99) (ea 99) ++ (wX3 q b u ++ wX1 q ea w)) s.heap.size (fun (uu : SV) => wX4 q a uu (b 99) (ea 99) ++ (wX3 q b u ++ wX1 q ea w))) (va_A (wX4 q a v (b 99) (ea 99) ++ (wX3 q b u ++ wX1 q ea w)) s.heap.size)) [.ref (a 99)].toArray s 0 0 (va_A (wX4 q a v (b 99) (ea 99) ++ (wX3 q b u ++ wX1 q ea w)) s.heap.size)) (F0 m 2 ls []) := by
    intro n
    induction n with
    | zero => intro _ _ h; cases h
    | succ n ih2 =>
      intro z2 ρ2 hz2 hK2 H3 locs3 hP3 hD3 hS3 ls2 hl2
      obtain ⟨t2, hm, hz2⟩ := bn hz2
      unfold m_X4_priceChanges_L2 at hm
      refine lv_iload_n hx hb dX4_priceChanges_2 rfl (lv_at hl2 1 rfl) ?_
      refine lv_aload_n hx hb dX4_priceChanges_3 rfl (lv_at hl2 0 rfl) ?_
      refine va_get (D := D) (ci := 4) (v := .ref (b 99)) (C := RX4) (T := TX4) (N := 12) hx hb hW iX4 hown hK hP3 0 rfl rfl 0 (by decide) (hW _ k_251) (fun _ h => h) rfl dX4_priceChanges_4 ?_
      refine va_get (D := D) (ci := 3) (v := .int (u 0 0)) (C := RX3) (T := TX3) (N := 17) hx hb hW iX3 hown hK hP3 6 rfl rfl 0 (by decide) (hW _ k_83) (fun _ h => h) rfl dX4_priceChanges_7 ?_
      refine lv_icmp_ge (tgt := 65) hx hb dX4_priceChanges_10 (by decide) (fun c10 => ?_) (fun c10 => ?_)
      · replace hm := tp hm c10
        cases hm
        cases hz2
        exact hE2 (z2.1, z2.2) hK2 _ _ hP3 hD3 hS3 _ (lv_sub hl2 [] rfl)
      · replace hm := tn hm c10
        refine lv_iconst (v := (0 : Int32)) hx hb dX4_priceChanges_13 (by decide) ?_
        refine lv_istore_n (lv' := [(2, .int (0 : Int32)), (0, .ref (a 99)), (1, .int z2.1)]) hx hb dX4_priceChanges_14 rfl hl2 (by decide) rfl (fun ls6 hl6 => ?_)
        clear hl2
        obtain ⟨r15, hr15, hm⟩ := bn hm
        obtain ⟨n15, hn15⟩ := lpC_ex hr15
        have hE15 : ∀ z15 : Int32 × SV, m_X4_priceChanges_K15 z2 z15 = some t2 → ∀ (H : Heap) (locs : List Loc), va_P D cls (wX4 q a z15.2 (b 99) (ea 99) ++ (wX3 q b u ++ wX1 q ea w)) H → va_D (va_A (wX4 q a v (b 99) (ea 99) ++ (wX3 q b u ++ wX1 q ea w)) s.heap.size) (wX4 q a z15.2 (b 99) (ea 99) ++ (wX3 q b u ++ wX1 q ea w)) → va_S (va_A (wX4 q a v (b 99) (ea 99) ++ (wX3 q b u ++ wX1 q ea w)) s.heap.size) s.heap H locs → ∀ ls : Array Slot, lv_has ls 3 [(0, .ref (a 99)), (1, .int z2.1)] → W p l e ((headSpec (mw yX4_priceChanges cX4_priceChanges 3 none) ({ frames := 2, cells := 0, slots := 0, locals := 42 } : Room)).room) s m [.ref (a 99)].toArray below meth c H locs 0 0 (MQ below (va_Qv (fun w => w = res) (bW D q (wX4 q a v (b 99) (ea 99) ++ (wX3 q b u ++ wX1 q ea w)) s.heap.size (fun (uu : SV) => wX4 q a uu (b 99) (ea 99) ++ (wX3 q b u ++ wX1 q ea w))) (va_A (wX4 q a v (b 99) (ea 99) ++ (wX3 q b u ++ wX1 q ea w)) s.heap.size)) [.ref (a 99)].toArray s 0 0 (va_A (wX4 q a v (b 99) (ea 99) ++ (wX3 q b u ++ wX1 q ea w)) s.heap.size)) (F0 m 59 ls []) := by
          intro z15 hm H10 locs10 hP10 hD10 hS10 ls9 hl9
          unfold m_X4_priceChanges_K15 at hm
          refine lv_iinc (v := (z2.1 + (1 : Int32))) (lv' := [(1, .int (z2.1 + (1 : Int32))), (0, .ref (a 99))]) hx hb dX4_priceChanges_59 hl9 (k := 1) rfl rfl (by decide) rfl (fun ls11 hl11 => ?_)
          clear hl9
          refine lv_goto (tgt := 2) hx hb dX4_priceChanges_62 (by decide) ?_
          cases hm
          exact ih2 ((z2.1 + (1 : Int32)), z15.2) ρ2 hz2 hK2 _ _ hP10 hD10 hS10 _ (lv_sub hl11 [1, 0] rfl)
        have hL15 : ∀ (n : Nat) (z15 : Int32 × SV) (ρ15 : Int32 × SV), lpO (m_X4_priceChanges_L15 u z2) n z15 = some ρ15 → (m_X4_priceChanges_K15 z2) ρ15 = some t2 → ∀ (H : Heap) (locs : List Loc), va_P D cls (wX4 q a z15.2 (b 99) (ea 99) ++ (wX3 q b u ++ wX1 q ea w)) H → va_D (va_A (wX4 q a v (b 99) (ea 99) ++ (wX3 q b u ++ wX1 q ea w)) s.heap.size) (wX4 q a z15.2 (b 99) (ea 99) ++ (wX3 q b u ++ wX1 q ea w)) → va_S (va_A (wX4 q a v (b 99) (ea 99) ++ (wX3 q b u ++ wX1 q ea w)) s.heap.size) s.heap H locs → ∀ ls : Array Slot, lv_has ls 3 [(0, .ref (a 99)), (1, .int z2.1), (2, .int z15.1)] → W p l e ((headSpec (mw yX4_priceChanges cX4_priceChanges 3 none) ({ frames := 2, cells := 0, slots := 0, locals := 42 } : Room)).room) s m [.ref (a 99)].toArray below meth c H locs 0 0 (MQ below (va_Qv (fun w => w = res) (bW D q (wX4 q a v (b 99) (ea 99) ++ (wX3 q b u ++ wX1 q ea w)) s.heap.size (fun (uu : SV) => wX4 q a uu (b 99) (ea 99) ++ (wX3 q b u ++ wX1 q ea w))) (va_A (wX4 q a v (b 99) (ea 99) ++ (wX3 q b u ++ wX1 q ea w)) s.heap.size)) [.ref (a 99)].toArray s 0 0 (va_A (wX4 q a v (b 99) (ea 99) ++ (wX3 q b u ++ wX1 q ea w)) s.heap.size)) (F0 m 15 ls []) := by
          intro n
          induction n with
          | zero => intro _ _ h; cases h
          | succ n ih15 =>
            intro z15 ρ15 hz15 hK15 H8 locs8 hP8 hD8 hS8 ls7 hl7
            obtain ⟨t15, hm, hz15⟩ := bn hz15
            unfold m_X4_priceChanges_L15 at hm
            refine lv_iload_n hx hb dX4_priceChanges_15 rfl (lv_at hl7 2 rfl) ?_
            refine lv_aload_n hx hb dX4_priceChanges_16 rfl (lv_at hl7 0 rfl) ?_
            refine va_get (D := D) (ci := 4) (v := .ref (b 99)) (C := RX4) (T := TX4) (N := 12) hx hb hW iX4 hown hK hP8 0 rfl rfl 0 (by decide) (hW _ k_251) (fun _ h => h) rfl dX4_priceChanges_17 ?_
            refine va_get (D := D) (ci := 3) (v := .int (u 0 1)) (C := RX3) (T := TX3) (N := 17) hx hb hW iX3 hown hK hP8 6 rfl rfl 1 (by decide) (hW _ k_87) (fun _ h => h) rfl dX4_priceChanges_20 ?_
            refine lv_icmp_ge (tgt := 59) hx hb dX4_priceChanges_23 (by decide) (fun c23 => ?_) (fun c23 => ?_)
            · replace hm := tp hm c23
              cases hm
              cases hz15
              exact hE15 (z15.1, z15.2) hK15 _ _ hP8 hD8 hS8 _ (lv_sub hl7 [0, 1] rfl)
            · replace hm := tn hm c23
              refine lv_aload_n hx hb dX4_priceChanges_26 rfl (lv_at hl7 0 rfl) ?_
              refine va_get (D := D) (ci := 4) (v := .ref (a 11)) (C := RX4) (T := TX4) (N := 12) hx hb hW iX4 hown hK hP8 0 rfl rfl 11 (by decide) (hW _ k_263) (fun _ h => h) rfl dX4_priceChanges_27 ?_
              refine lv_iload_n hx hb dX4_priceChanges_30 rfl (lv_at hl7 1 rfl) ?_
              refine lv_iconst (v := (5 : Int32)) hx hb dX4_priceChanges_31 (by decide) ?_
              refine lv_imul hx hb dX4_priceChanges_32 ?_
              refine lv_iload_n hx hb dX4_priceChanges_33 rfl (lv_at hl7 2 rfl) ?_
              refine lv_iadd hx hb dX4_priceChanges_34 ?_
              refine lv_aload_n hx hb dX4_priceChanges_35 rfl (lv_at hl7 0 rfl) ?_
              refine va_get (D := D) (ci := 4) (v := .ref (b 99)) (C := RX4) (T := TX4) (N := 12) hx hb hW iX4 hown hK hP8 0 rfl rfl 0 (by decide) (hW _ k_251) (fun _ h => h) rfl dX4_priceChanges_36 ?_
              refine lv_iload_n hx hb dX4_priceChanges_39 rfl (lv_at hl7 1 rfl) ?_
              obtain ⟨y40, hy40, hm⟩ := bn hm
              refine cVRi (As := [.int z2.1]) (rest := [.int ((z2.1 * (5 : Int32)) + z15.1), .ref (a 11)]) X hP8 hl7.1 (c_X3_top l D q b u z2.1 y40 hy40) [6, 7, 8, 9, 10, 11, 12, 13, 14, 15, 16, 17] rfl 6 rfl rfl rfl k_697 mX3_top ⟨rfl, rfl⟩ ⟨Nat.le_of_ble_eq_true rfl, Nat.le_of_ble_eq_true rfl⟩ rfl rfl (Nat.le_of_ble_eq_true rfl) dX4_priceChanges_40 ⟨Nat.zero_le _, Nat.zero_le _⟩ ?_
              refine lv_iload_n hx hb dX4_priceChanges_43 rfl (lv_at hl7 2 rfl) ?_
              refine lv_icmp_ne (tgt := 51) hx hb dX4_priceChanges_44 (by decide) (fun c44 => ?_) (fun c44 => ?_)
              · replace hm := tn hm c44
                refine lv_iconst (v := (1 : Int32)) hx hb dX4_priceChanges_51 (by decide) ?_
                obtain ⟨h15, hm⟩ := ckd hm
                refine va_iast (f := (z15.2 11)) hx hb hK hP8 hD8 hS8 5 0 rfl rfl (inB_vp h15) dX4_priceChanges_52 (fun H16 locs16 hP hD hS16 => ?_)
                obtain ⟨v16_, e16, hm⟩ := ltd hm
                have hP16 : va_P D cls (wX4 q a v16_ (b 99) (ea 99) ++ (wX3 q b u ++ wX1 q ea w)) H16 := by rw [e16]; exact hP
                have hD16 : va_D (va_A (wX4 q a v (b 99) (ea 99) ++ (wX3 q b u ++ wX1 q ea w)) s.heap.size) (wX4 q a v16_ (b 99) (ea 99) ++ (wX3 q b u ++ wX1 q ea w)) := by rw [e16]; exact hD
                clear hP hD hP8 hD8 hS8
                refine lv_iinc (v := (z15.1 + (1 : Int32))) (lv' := [(2, .int (z15.1 + (1 : Int32))), (0, .ref (a 99)), (1, .int z2.1)]) hx hb dX4_priceChanges_53 hl7 (k := 2) rfl rfl (by decide) rfl (fun ls17 hl17 => ?_)
                clear hl7
                refine lv_goto (tgt := 15) hx hb dX4_priceChanges_56 (by decide) ?_
                cases hm
                exact ih15 ((z15.1 + (1 : Int32)), v16_) ρ15 hz15 hK15 _ _ hP16 hD16 hS16 _ (lv_sub hl17 [1, 2, 0] rfl)
              · replace hm := tp hm c44
                refine lv_iconst (v := (0 : Int32)) hx hb dX4_priceChanges_47 (by decide) ?_
                refine lv_goto (tgt := 52) hx hb dX4_priceChanges_48 (by decide) ?_
                obtain ⟨h12, hm⟩ := ckd hm
                refine va_iast (f := (z15.2 11)) hx hb hK hP8 hD8 hS8 5 0 rfl rfl (inB_vp h12) dX4_priceChanges_52 (fun H13 locs13 hP hD hS13 => ?_)
                obtain ⟨v13_, e13, hm⟩ := ltd hm
                have hP13 : va_P D cls (wX4 q a v13_ (b 99) (ea 99) ++ (wX3 q b u ++ wX1 q ea w)) H13 := by rw [e13]; exact hP
                have hD13 : va_D (va_A (wX4 q a v (b 99) (ea 99) ++ (wX3 q b u ++ wX1 q ea w)) s.heap.size) (wX4 q a v13_ (b 99) (ea 99) ++ (wX3 q b u ++ wX1 q ea w)) := by rw [e13]; exact hD
                clear hP hD hP8 hD8 hS8
                refine lv_iinc (v := (z15.1 + (1 : Int32))) (lv' := [(2, .int (z15.1 + (1 : Int32))), (0, .ref (a 99)), (1, .int z2.1)]) hx hb dX4_priceChanges_53 hl7 (k := 2) rfl rfl (by decide) rfl (fun ls14 hl14 => ?_)
                clear hl7
                refine lv_goto (tgt := 15) hx hb dX4_priceChanges_56 (by decide) ?_
                cases hm
                exact ih15 ((z15.1 + (1 : Int32)), v13_) ρ15 hz15 hK15 _ _ hP13 hD13 hS13 _ (lv_sub hl14 [1, 2, 0] rfl)
        exact hL15 n15 ((0 : Int32), z2.2) r15 hn15 hm _ _ hP3 hD3 hS3 _ (lv_sub hl6 [1, 2, 0] rfl)
  exact hL2 n2 ((0 : Int32), v) r2 hn2 hm _ _ hP0 hD0 hS0 _ (lv_sub hl1 [1, 0] rfl)
noncomputable def m_X4_priceSittings_K2 (z2 : Int32 × SV) : Option (SV) :=
  some z2.2
noncomputable def m_X4_priceSittings_K15 (z2 : Int32 × SV) (z15 : Int32 × SV) : Option ((Int32 × SV) ⊕ (Int32 × SV)) :=
  some (.inl ((z2.1 + (1 : Int32)), z15.2))
noncomputable def m_X4_priceSittings_L15 (u : SV) (z2 : Int32 × SV) (z15 : Int32 × SV) : Option ((Int32 × SV) ⊕ (Int32 × SV)) :=
  (if (u 0 1) ≤ z15.1 then some (.inr (z15.1, z15.2)) else ck (inB z15.1 5) (ck (inB z2.1 6) (ck (inB ((z2.1 * (5 : Int32)) + z15.1) 30) (lett (up2 z15.2 11 ((((z2.1 * (5 : Int32)) + z15.1)).toNatClampNeg) ((u 11 ((z15.1).toNatClampNeg)) * (u 6 ((z2.1).toNatClampNeg)))) (fun v15_ => some (.inl ((z15.1 + (1 : Int32)), v15_)))))))
noncomputable def m_X4_priceSittings_L2 (u : SV) (z2 : Int32 × SV) : Option ((Int32 × SV) ⊕ (Int32 × SV)) :=
  (if (u 0 0) ≤ z2.1 then some (.inr (z2.1, z2.2)) else (lpC (m_X4_priceSittings_L15 u z2) ((0 : Int32), z2.2)).bind (m_X4_priceSittings_K15 z2))
noncomputable def m_X4_priceSittings (v : SV) (u : SV) (w : SV) : Option (SV) :=
  (lpC (m_X4_priceSittings_L2 u) ((0 : Int32), v)).bind (m_X4_priceSittings_K2)
set_option maxHeartbeats 4000000 in
set_option maxRecDepth 100000 in
theorem c_X4_priceSittings (l : Launch) (D : va_G) (q : Nat → ClassId) (sz : Nat) (a : Nat → Nat) (v : SV) (b : Nat → Nat) (u : SV) (ea : Nat → Nat) (w : SV) (res : SV) (hm : m_X4_priceSittings v u w = some res) : Met l yX4_priceSittings (mw yX4_priceSittings cX4_priceSittings 3 none) ({ frames := 0, cells := 0, slots := 0, locals := 0 } : Room) (pcW D q (wX4 q a v (b 99) (ea 99) ++ (wX3 q b u ++ wX1 q ea w)) sz [.ref (a 99)]) (va_Qv (fun w => w = res) (bW D q (wX4 q a v (b 99) (ea 99) ++ (wX3 q b u ++ wX1 q ea w)) sz (fun (uu : SV) => wX4 q a uu (b 99) (ea 99) ++ (wX3 q b u ++ wX1 q ea w))) (va_A (wX4 q a v (b 99) (ea 99) ++ (wX3 q b u ++ wX1 q ea w)) sz)) 0 0 (va_A (wX4 q a v (b 99) (ea 99) ++ (wX3 q b u ++ wX1 q ea w)) sz) := by
  refine Met.ofW (cc := cX4_priceSittings) (maxL := 3) (ret := none) (by decide) rfl ?_
  intro p e s m args below meth c s₁ B hml hv
  obtain ⟨rfl, hsz, hP0, hK, hD0⟩ := hv
  have hx := B.exec
  have hb := B.bytes
  have hr := B.returns
  have hW := mw_ws (atoms_spec (ws := mw yX4_priceSittings cX4_priceSittings 3 none) B.pre)
  have hown : s.vm.findClass RX4 = some m.cls := findClass_of_methodNamed B.named
  have hlocks := B.notSynchronized
  have X : Cx p s m [.ref (a 99)].toArray c cX4_priceSittings 3 RX4 D q := ⟨hx, hb, hml, hown, hW, hK⟩
  subst hsz
  replace hD0 := hD0.self (sz := s.heap.size)
  have hS0 : va_S (va_A (wX4 q a v (b 99) (ea 99) ++ (wX3 q b u ++ wX1 q ea w)) s.heap.size) s.heap s.heap [] := va_S.rf
  have hl0 := lv_entry ([.ref (a 99)]) (n := 3) (Nat.le_of_ble_eq_true rfl)
  rw [lg_entry_eq]
  generalize (lg_sl ([.ref (a 99)]) ++ List.replicate (3 - (lg_sl ([.ref (a 99)])).length) Slot.unset).toArray = ls0 at hl0 ⊢
  have hl0 : lv_has ls0 3 [(0, .ref (a 99))] := hl0
  unfold m_X4_priceSittings at hm
  refine lv_iconst (v := (0 : Int32)) hx hb dX4_priceSittings_0 (by decide) ?_
  refine lv_istore_n (lv' := [(1, .int (0 : Int32)), (0, .ref (a 99))]) hx hb dX4_priceSittings_1 rfl hl0 (by decide) rfl (fun ls1 hl1 => ?_)
  clear hl0
  obtain ⟨r2, hr2, hm⟩ := bn hm
  obtain ⟨n2, hn2⟩ := lpC_ex hr2
  have hE2 : ∀ z2 : Int32 × SV, m_X4_priceSittings_K2 z2 = some res → ∀ (H : Heap) (locs : List Loc), va_P D cls (wX4 q a z2.2 (b 99) (ea 99) ++ (wX3 q b u ++ wX1 q ea w)) H → va_D (va_A (wX4 q a v (b 99) (ea 99) ++ (wX3 q b u ++ wX1 q ea w)) s.heap.size) (wX4 q a z2.2 (b 99) (ea 99) ++ (wX3 q b u ++ wX1 q ea w)) → va_S (va_A (wX4 q a v (b 99) (ea 99) ++ (wX3 q b u ++ wX1 q ea w)) s.heap.size) s.heap H locs → ∀ ls : Array Slot, lv_has ls 3 [] → W p l e ((headSpec (mw yX4_priceSittings cX4_priceSittings 3 none) ({ frames := 0, cells := 0, slots := 0, locals := 0 } : Room)).room) s m [.ref (a 99)].toArray below meth c H locs 0 0 (MQ below (va_Qv (fun w => w = res) (bW D q (wX4 q a v (b 99) (ea 99) ++ (wX3 q b u ++ wX1 q ea w)) s.heap.size (fun (uu : SV) => wX4 q a uu (b 99) (ea 99) ++ (wX3 q b u ++ wX1 q ea w))) (va_A (wX4 q a v (b 99) (ea 99) ++ (wX3 q b u ++ wX1 q ea w)) s.heap.size)) [.ref (a 99)].toArray s 0 0 (va_A (wX4 q a v (b 99) (ea 99) ++ (wX3 q b u ++ wX1 q ea w)) s.heap.size)) (F0 m 67 ls []) := by
    intro z2 hm H5 locs5 hP5 hD5 hS5 ls4 hl4
    unfold m_X4_priceSittings_K2 at hm
    exact eWv (Wf := fun (uu : SV) => wX4 q a uu (b 99) (ea 99) ++ (wX3 q b u ++ wX1 q ea w)) (u := z2.2) X hr hlocks hP5 hD5 hS5 hm dX4_priceSittings_67
  have hL2 : ∀ (n : Nat) (z2 : Int32 × SV) (ρ2 : Int32 × SV), lpO (m_X4_priceSittings_L2 u) n z2 = some ρ2 → (m_X4_priceSittings_K2) ρ2 = some res → ∀ (H : Heap) (locs : List Loc), va_P D cls (wX4 q a z2.2 (b 99) (ea 99) ++ (wX3 q b u ++ wX1 q ea w)) H → va_D (va_A (wX4 q a v (b 99) (ea 99) ++ (wX3 q b u ++ wX1 q ea w)) s.heap.size) (wX4 q a z2.2 (b 99) (ea 99) ++ (wX3 q b u ++ wX1 q ea w)) → va_S (va_A (wX4 q a v (b 99) (ea 99) ++ (wX3 q b u ++ wX1 q ea w)) s.heap.size) s.heap H locs → ∀ ls : Array Slot, lv_has ls 3 [(0, .ref (a 99)), (1, .int z2.1)] → W p l e ((headSpec (mw yX4_priceSittings cX4_priceSittings 3 none) ({ frames := 0, cells := 0, slots := 0, locals := 0 } : Room)).room) s m [.ref (a 99)].toArray below meth c H locs 0 0 (MQ below (va_Qv (fun w => w = res) (bW D q (wX4 q a v (b 99) (ea 99) ++ (wX3 q b u ++ wX1 q ea w)) s.heap.size (fun (uu : SV) => wX4 q a uu (b 99) (ea 99) ++ (wX3 q b u ++ wX1 q ea w))) (va_A (wX4 q a v (b 99) (ea 99) ++ (wX3 q b u ++ wX1 q ea w)) s.heap.size)) [.ref (a 99)].toArray s 0 0 (va_A (wX4 q a v (b 99) (ea 99) ++ (wX3 q b u ++ wX1 q ea w)) s.heap.size)) (F0 m 2 ls []) := by
    intro n
    induction n with
    | zero => intro _ _ h; cases h
    | succ n ih2 =>
      intro z2 ρ2 hz2 hK2 H3 locs3 hP3 hD3 hS3 ls2 hl2
      obtain ⟨t2, hm, hz2⟩ := bn hz2
      unfold m_X4_priceSittings_L2 at hm
      refine lv_iload_n hx hb dX4_priceSittings_2 rfl (lv_at hl2 1 rfl) ?_
      refine lv_aload_n hx hb dX4_priceSittings_3 rfl (lv_at hl2 0 rfl) ?_
      refine va_get (D := D) (ci := 4) (v := .ref (b 99)) (C := RX4) (T := TX4) (N := 12) hx hb hW iX4 hown hK hP3 0 rfl rfl 0 (by decide) (hW _ k_251) (fun _ h => h) rfl dX4_priceSittings_4 ?_
      refine va_get (D := D) (ci := 3) (v := .int (u 0 0)) (C := RX3) (T := TX3) (N := 17) hx hb hW iX3 hown hK hP3 6 rfl rfl 0 (by decide) (hW _ k_83) (fun _ h => h) rfl dX4_priceSittings_7 ?_
      refine lv_icmp_ge (tgt := 67) hx hb dX4_priceSittings_10 (by decide) (fun c10 => ?_) (fun c10 => ?_)
      · replace hm := tp hm c10
        cases hm
        cases hz2
        exact hE2 (z2.1, z2.2) hK2 _ _ hP3 hD3 hS3 _ (lv_sub hl2 [] rfl)
      · replace hm := tn hm c10
        refine lv_iconst (v := (0 : Int32)) hx hb dX4_priceSittings_13 (by decide) ?_
        refine lv_istore_n (lv' := [(2, .int (0 : Int32)), (0, .ref (a 99)), (1, .int z2.1)]) hx hb dX4_priceSittings_14 rfl hl2 (by decide) rfl (fun ls6 hl6 => ?_)
        clear hl2
        obtain ⟨r15, hr15, hm⟩ := bn hm
        obtain ⟨n15, hn15⟩ := lpC_ex hr15
        have hE15 : ∀ z15 : Int32 × SV, m_X4_priceSittings_K15 z2 z15 = some t2 → ∀ (H : Heap) (locs : List Loc), va_P D cls (wX4 q a z15.2 (b 99) (ea 99) ++ (wX3 q b u ++ wX1 q ea w)) H → va_D (va_A (wX4 q a v (b 99) (ea 99) ++ (wX3 q b u ++ wX1 q ea w)) s.heap.size) (wX4 q a z15.2 (b 99) (ea 99) ++ (wX3 q b u ++ wX1 q ea w)) → va_S (va_A (wX4 q a v (b 99) (ea 99) ++ (wX3 q b u ++ wX1 q ea w)) s.heap.size) s.heap H locs → ∀ ls : Array Slot, lv_has ls 3 [(0, .ref (a 99)), (1, .int z2.1)] → W p l e ((headSpec (mw yX4_priceSittings cX4_priceSittings 3 none) ({ frames := 0, cells := 0, slots := 0, locals := 0 } : Room)).room) s m [.ref (a 99)].toArray below meth c H locs 0 0 (MQ below (va_Qv (fun w => w = res) (bW D q (wX4 q a v (b 99) (ea 99) ++ (wX3 q b u ++ wX1 q ea w)) s.heap.size (fun (uu : SV) => wX4 q a uu (b 99) (ea 99) ++ (wX3 q b u ++ wX1 q ea w))) (va_A (wX4 q a v (b 99) (ea 99) ++ (wX3 q b u ++ wX1 q ea w)) s.heap.size)) [.ref (a 99)].toArray s 0 0 (va_A (wX4 q a v (b 99) (ea 99) ++ (wX3 q b u ++ wX1 q ea w)) s.heap.size)) (F0 m 61 ls []) := by
          intro z15 hm H10 locs10 hP10 hD10 hS10 ls9 hl9
          unfold m_X4_priceSittings_K15 at hm
          refine lv_iinc (v := (z2.1 + (1 : Int32))) (lv' := [(1, .int (z2.1 + (1 : Int32))), (0, .ref (a 99))]) hx hb dX4_priceSittings_61 hl9 (k := 1) rfl rfl (by decide) rfl (fun ls11 hl11 => ?_)
          clear hl9
          refine lv_goto (tgt := 2) hx hb dX4_priceSittings_64 (by decide) ?_
          cases hm
          exact ih2 ((z2.1 + (1 : Int32)), z15.2) ρ2 hz2 hK2 _ _ hP10 hD10 hS10 _ (lv_sub hl11 [1, 0] rfl)
        have hL15 : ∀ (n : Nat) (z15 : Int32 × SV) (ρ15 : Int32 × SV), lpO (m_X4_priceSittings_L15 u z2) n z15 = some ρ15 → (m_X4_priceSittings_K15 z2) ρ15 = some t2 → ∀ (H : Heap) (locs : List Loc), va_P D cls (wX4 q a z15.2 (b 99) (ea 99) ++ (wX3 q b u ++ wX1 q ea w)) H → va_D (va_A (wX4 q a v (b 99) (ea 99) ++ (wX3 q b u ++ wX1 q ea w)) s.heap.size) (wX4 q a z15.2 (b 99) (ea 99) ++ (wX3 q b u ++ wX1 q ea w)) → va_S (va_A (wX4 q a v (b 99) (ea 99) ++ (wX3 q b u ++ wX1 q ea w)) s.heap.size) s.heap H locs → ∀ ls : Array Slot, lv_has ls 3 [(0, .ref (a 99)), (1, .int z2.1), (2, .int z15.1)] → W p l e ((headSpec (mw yX4_priceSittings cX4_priceSittings 3 none) ({ frames := 0, cells := 0, slots := 0, locals := 0 } : Room)).room) s m [.ref (a 99)].toArray below meth c H locs 0 0 (MQ below (va_Qv (fun w => w = res) (bW D q (wX4 q a v (b 99) (ea 99) ++ (wX3 q b u ++ wX1 q ea w)) s.heap.size (fun (uu : SV) => wX4 q a uu (b 99) (ea 99) ++ (wX3 q b u ++ wX1 q ea w))) (va_A (wX4 q a v (b 99) (ea 99) ++ (wX3 q b u ++ wX1 q ea w)) s.heap.size)) [.ref (a 99)].toArray s 0 0 (va_A (wX4 q a v (b 99) (ea 99) ++ (wX3 q b u ++ wX1 q ea w)) s.heap.size)) (F0 m 15 ls []) := by
          intro n
          induction n with
          | zero => intro _ _ h; cases h
          | succ n ih15 =>
            intro z15 ρ15 hz15 hK15 H8 locs8 hP8 hD8 hS8 ls7 hl7
            obtain ⟨t15, hm, hz15⟩ := bn hz15
            unfold m_X4_priceSittings_L15 at hm
            refine lv_iload_n hx hb dX4_priceSittings_15 rfl (lv_at hl7 2 rfl) ?_
            refine lv_aload_n hx hb dX4_priceSittings_16 rfl (lv_at hl7 0 rfl) ?_
            refine va_get (D := D) (ci := 4) (v := .ref (b 99)) (C := RX4) (T := TX4) (N := 12) hx hb hW iX4 hown hK hP8 0 rfl rfl 0 (by decide) (hW _ k_251) (fun _ h => h) rfl dX4_priceSittings_17 ?_
            refine va_get (D := D) (ci := 3) (v := .int (u 0 1)) (C := RX3) (T := TX3) (N := 17) hx hb hW iX3 hown hK hP8 6 rfl rfl 1 (by decide) (hW _ k_87) (fun _ h => h) rfl dX4_priceSittings_20 ?_
            refine lv_icmp_ge (tgt := 61) hx hb dX4_priceSittings_23 (by decide) (fun c23 => ?_) (fun c23 => ?_)
            · replace hm := tp hm c23
              cases hm
              cases hz15
              exact hE15 (z15.1, z15.2) hK15 _ _ hP8 hD8 hS8 _ (lv_sub hl7 [0, 1] rfl)
            · replace hm := tn hm c23
              refine lv_aload_n hx hb dX4_priceSittings_26 rfl (lv_at hl7 0 rfl) ?_
              refine va_get (D := D) (ci := 4) (v := .ref (a 11)) (C := RX4) (T := TX4) (N := 12) hx hb hW iX4 hown hK hP8 0 rfl rfl 11 (by decide) (hW _ k_263) (fun _ h => h) rfl dX4_priceSittings_27 ?_
              refine lv_iload_n hx hb dX4_priceSittings_30 rfl (lv_at hl7 1 rfl) ?_
              refine lv_iconst (v := (5 : Int32)) hx hb dX4_priceSittings_31 (by decide) ?_
              refine lv_imul hx hb dX4_priceSittings_32 ?_
              refine lv_iload_n hx hb dX4_priceSittings_33 rfl (lv_at hl7 2 rfl) ?_
              refine lv_iadd hx hb dX4_priceSittings_34 ?_
              refine lv_aload_n hx hb dX4_priceSittings_35 rfl (lv_at hl7 0 rfl) ?_
              refine va_get (D := D) (ci := 4) (v := .ref (b 99)) (C := RX4) (T := TX4) (N := 12) hx hb hW iX4 hown hK hP8 0 rfl rfl 0 (by decide) (hW _ k_251) (fun _ h => h) rfl dX4_priceSittings_36 ?_
              refine va_get (D := D) (ci := 3) (v := .ref (b 11)) (C := RX3) (T := TX3) (N := 17) hx hb hW iX3 hown hK hP8 6 rfl rfl 11 (by decide) (hW _ k_117) (fun _ h => h) rfl dX4_priceSittings_39 ?_
              refine lv_iload_n hx hb dX4_priceSittings_42 rfl (lv_at hl7 2 rfl) ?_
              obtain ⟨h12, hm⟩ := ckd hm
              refine va_iald (f := (u 11)) hx hb hK hP8 12 0 rfl rfl (inB_vp h12) dX4_priceSittings_43 ?_
              refine lv_aload_n hx hb dX4_priceSittings_44 rfl (lv_at hl7 0 rfl) ?_
              refine va_get (D := D) (ci := 4) (v := .ref (b 99)) (C := RX4) (T := TX4) (N := 12) hx hb hW iX4 hown hK hP8 0 rfl rfl 0 (by decide) (hW _ k_251) (fun _ h => h) rfl dX4_priceSittings_45 ?_
              refine va_get (D := D) (ci := 3) (v := .ref (b 6)) (C := RX3) (T := TX3) (N := 17) hx hb hW iX3 hown hK hP8 6 rfl rfl 6 (by decide) (hW _ k_102) (fun _ h => h) rfl dX4_priceSittings_48 ?_
              refine lv_iload_n hx hb dX4_priceSittings_51 rfl (lv_at hl7 1 rfl) ?_
              obtain ⟨h13, hm⟩ := ckd hm
              refine va_iald (f := (u 6)) hx hb hK hP8 7 0 rfl rfl (inB_vp h13) dX4_priceSittings_52 ?_
              refine lv_imul hx hb dX4_priceSittings_53 ?_
              obtain ⟨h14, hm⟩ := ckd hm
              refine va_iast (f := (z15.2 11)) hx hb hK hP8 hD8 hS8 5 0 rfl rfl (inB_vp h14) dX4_priceSittings_54 (fun H15 locs15 hP hD hS15 => ?_)
              obtain ⟨v15_, e15, hm⟩ := ltd hm
              have hP15 : va_P D cls (wX4 q a v15_ (b 99) (ea 99) ++ (wX3 q b u ++ wX1 q ea w)) H15 := by rw [e15]; exact hP
              have hD15 : va_D (va_A (wX4 q a v (b 99) (ea 99) ++ (wX3 q b u ++ wX1 q ea w)) s.heap.size) (wX4 q a v15_ (b 99) (ea 99) ++ (wX3 q b u ++ wX1 q ea w)) := by rw [e15]; exact hD
              clear hP hD hP8 hD8 hS8
              refine lv_iinc (v := (z15.1 + (1 : Int32))) (lv' := [(2, .int (z15.1 + (1 : Int32))), (0, .ref (a 99)), (1, .int z2.1)]) hx hb dX4_priceSittings_55 hl7 (k := 2) rfl rfl (by decide) rfl (fun ls16 hl16 => ?_)
              clear hl7
              refine lv_goto (tgt := 15) hx hb dX4_priceSittings_58 (by decide) ?_
              cases hm
              exact ih15 ((z15.1 + (1 : Int32)), v15_) ρ15 hz15 hK15 _ _ hP15 hD15 hS15 _ (lv_sub hl16 [1, 2, 0] rfl)
        exact hL15 n15 ((0 : Int32), z2.2) r15 hn15 hm _ _ hP3 hD3 hS3 _ (lv_sub hl6 [1, 2, 0] rfl)
  exact hL2 n2 ((0 : Int32), v) r2 hn2 hm _ _ hP0 hD0 hS0 _ (lv_sub hl1 [1, 0] rfl)
noncomputable def m_X4_timesAhead_K4 (z4 : Int32 × Int32) : Option (Int32) :=
  some z4.1
noncomputable def m_X4_timesAhead_L4 (v : SV) (x1 : Int32) (z4 : Int32 × Int32) : Option ((Int32 × Int32) ⊕ (Int32 × Int32)) :=
  (if (v 0 5) ≤ z4.2 then some (.inr (z4.1, z4.2)) else ck (inB z4.2 6) ((if (v 8 ((z4.2).toNatClampNeg)) = x1 then some (.inl ((z4.1 + (1 : Int32)), (z4.2 + (1 : Int32)))) else some (.inl (z4.1, (z4.2 + (1 : Int32)))))))
noncomputable def m_X4_timesAhead (v : SV) (u : SV) (w : SV) (x1 : Int32) : Option (Int32) :=
  (lpC (m_X4_timesAhead_L4 v x1) ((0 : Int32), (0 : Int32))).bind (m_X4_timesAhead_K4)
set_option maxHeartbeats 4000000 in
set_option maxRecDepth 100000 in
theorem c_X4_timesAhead (l : Launch) (D : va_G) (q : Nat → ClassId) (a : Nat → Nat) (v : SV) (b : Nat → Nat) (u : SV) (ea : Nat → Nat) (w : SV) (x1 : Int32) (res : Int32) (hm : m_X4_timesAhead v u w x1 = some res) : Met l yX4_timesAhead (mw yX4_timesAhead cX4_timesAhead 4 (some .int)) ({ frames := 0, cells := 0, slots := 0, locals := 0 } : Room) (pcR D q (wX4 q a v (b 99) (ea 99) ++ (wX3 q b u ++ wX1 q ea w)) [.ref (a 99), .int x1]) (vp_Si (fun x => x = res)) 0 0 (fun _ => False) := by
  refine Met.ofW (cc := cX4_timesAhead) (maxL := 4) (ret := (some .int)) (by decide) rfl ?_
  intro p e s m args below meth c s₁ B hml hv
  obtain ⟨rfl, hP0, hK⟩ := hv
  have hx := B.exec
  have hb := B.bytes
  have hr := B.returns
  have hW := mw_ws (atoms_spec (ws := mw yX4_timesAhead cX4_timesAhead 4 (some .int)) B.pre)
  have hown : s.vm.findClass RX4 = some m.cls := findClass_of_methodNamed B.named
  have hlocks := B.notSynchronized
  have X : Cx p s m [.ref (a 99), .int x1].toArray c cX4_timesAhead 4 RX4 D q := ⟨hx, hb, hml, hown, hW, hK⟩
  have hl0 := lv_entry ([.ref (a 99), .int x1]) (n := 4) (Nat.le_of_ble_eq_true rfl)
  rw [lg_entry_eq]
  generalize (lg_sl ([.ref (a 99), .int x1]) ++ List.replicate (4 - (lg_sl ([.ref (a 99), .int x1])).length) Slot.unset).toArray = ls0 at hl0 ⊢
  have hl0 : lv_has ls0 4 [(0, .ref (a 99)), (1, .int x1)] := hl0
  unfold m_X4_timesAhead at hm
  refine lv_iconst (v := (0 : Int32)) hx hb dX4_timesAhead_0 (by decide) ?_
  refine lv_istore_n (lv' := [(2, .int (0 : Int32)), (0, .ref (a 99)), (1, .int x1)]) hx hb dX4_timesAhead_1 rfl hl0 (by decide) rfl (fun ls1 hl1 => ?_)
  clear hl0
  refine lv_iconst (v := (0 : Int32)) hx hb dX4_timesAhead_2 (by decide) ?_
  refine lv_istore_n (lv' := [(3, .int (0 : Int32)), (2, .int (0 : Int32)), (0, .ref (a 99)), (1, .int x1)]) hx hb dX4_timesAhead_3 rfl hl1 (by decide) rfl (fun ls2 hl2 => ?_)
  clear hl1
  obtain ⟨r4, hr4, hm⟩ := bn hm
  obtain ⟨n4, hn4⟩ := lpC_ex hr4
  have hE4 : ∀ z4 : Int32 × Int32, m_X4_timesAhead_K4 z4 = some res → ∀ ls : Array Slot, lv_has ls 4 [(2, .int z4.1)] → W p l e ((headSpec (mw yX4_timesAhead cX4_timesAhead 4 (some .int)) ({ frames := 0, cells := 0, slots := 0, locals := 0 } : Room)).room) s m [.ref (a 99), .int x1].toArray below meth c s.heap [] 0 0 (MQ below (vp_Si (fun x => x = res)) [.ref (a 99), .int x1].toArray s 0 0 (fun _ => False)) (F0 m 31 ls []) := by
    intro z4 hm ls4 hl4
    unfold m_X4_timesAhead_K4 at hm
    refine lv_iload_n hx hb dX4_timesAhead_31 rfl (lv_at hl4 0 rfl) ?_
    exact eRi  X hr hlocks hm dX4_timesAhead_32
  have hL4 : ∀ (n : Nat) (z4 : Int32 × Int32) (ρ4 : Int32 × Int32), lpO (m_X4_timesAhead_L4 v x1) n z4 = some ρ4 → (m_X4_timesAhead_K4) ρ4 = some res → ∀ ls : Array Slot, lv_has ls 4 [(0, .ref (a 99)), (1, .int x1), (2, .int z4.1), (3, .int z4.2)] → W p l e ((headSpec (mw yX4_timesAhead cX4_timesAhead 4 (some .int)) ({ frames := 0, cells := 0, slots := 0, locals := 0 } : Room)).room) s m [.ref (a 99), .int x1].toArray below meth c s.heap [] 0 0 (MQ below (vp_Si (fun x => x = res)) [.ref (a 99), .int x1].toArray s 0 0 (fun _ => False)) (F0 m 4 ls []) := by
    intro n
    induction n with
    | zero => intro _ _ h; cases h
    | succ n ih4 =>
      intro z4 ρ4 hz4 hK4 ls3 hl3
      obtain ⟨t4, hm, hz4⟩ := bn hz4
      unfold m_X4_timesAhead_L4 at hm
      refine lv_iload_n hx hb dX4_timesAhead_4 rfl (lv_at hl3 3 rfl) ?_
      refine lv_aload_n hx hb dX4_timesAhead_5 rfl (lv_at hl3 0 rfl) ?_
      refine va_get (D := D) (ci := 4) (v := .int (v 0 5)) (C := RX4) (T := TX4) (N := 12) hx hb hW iX4 hown hK hP0 0 rfl rfl 5 (by decide) (hW _ k_257) (fun _ h => h) rfl dX4_timesAhead_6 ?_
      refine lv_icmp_ge (tgt := 31) hx hb dX4_timesAhead_9 (by decide) (fun c9 => ?_) (fun c9 => ?_)
      · replace hm := tp hm c9
        cases hm
        cases hz4
        exact hE4 (z4.1, z4.2) hK4 _ (lv_sub hl3 [2] rfl)
      · replace hm := tn hm c9
        refine lv_aload_n hx hb dX4_timesAhead_12 rfl (lv_at hl3 0 rfl) ?_
        refine va_get (D := D) (ci := 4) (v := .ref (a 8)) (C := RX4) (T := TX4) (N := 12) hx hb hW iX4 hown hK hP0 0 rfl rfl 8 (by decide) (hW _ k_260) (fun _ h => h) rfl dX4_timesAhead_13 ?_
        refine lv_iload_n hx hb dX4_timesAhead_16 rfl (lv_at hl3 3 rfl) ?_
        obtain ⟨h5, hm⟩ := ckd hm
        refine va_iald (f := (v 8)) hx hb hK hP0 2 0 rfl rfl (inB_vp h5) dX4_timesAhead_17 ?_
        refine lv_iload_n hx hb dX4_timesAhead_18 rfl (lv_at hl3 1 rfl) ?_
        refine lv_icmp_ne (tgt := 25) hx hb dX4_timesAhead_19 (by decide) (fun c19 => ?_) (fun c19 => ?_)
        · replace hm := tn hm c19
          refine lv_iinc (v := (z4.2 + (1 : Int32))) (lv' := [(3, .int (z4.2 + (1 : Int32))), (0, .ref (a 99)), (1, .int x1), (2, .int z4.1)]) hx hb dX4_timesAhead_25 hl3 (k := 3) rfl rfl (by decide) rfl (fun ls8 hl8 => ?_)
          clear hl3
          refine lv_goto (tgt := 4) hx hb dX4_timesAhead_28 (by decide) ?_
          cases hm
          exact ih4 (z4.1, (z4.2 + (1 : Int32))) ρ4 hz4 hK4 _ (lv_sub hl8 [1, 2, 3, 0] rfl)
        · replace hm := tp hm c19
          refine lv_iinc (v := (z4.1 + (1 : Int32))) (lv' := [(2, .int (z4.1 + (1 : Int32))), (0, .ref (a 99)), (1, .int x1), (3, .int z4.2)]) hx hb dX4_timesAhead_22 hl3 (k := 2) rfl rfl (by decide) rfl (fun ls6 hl6 => ?_)
          clear hl3
          refine lv_iinc (v := (z4.2 + (1 : Int32))) (lv' := [(3, .int (z4.2 + (1 : Int32))), (2, .int (z4.1 + (1 : Int32))), (0, .ref (a 99)), (1, .int x1)]) hx hb dX4_timesAhead_25 hl6 (k := 3) rfl rfl (by decide) rfl (fun ls7 hl7 => ?_)
          clear hl6
          refine lv_goto (tgt := 4) hx hb dX4_timesAhead_28 (by decide) ?_
          cases hm
          exact ih4 ((z4.1 + (1 : Int32)), (z4.2 + (1 : Int32))) ρ4 hz4 hK4 _ (lv_sub hl7 [2, 3, 1, 0] rfl)
  exact hL4 n4 ((0 : Int32), (0 : Int32)) r4 hn4 hm _ (lv_sub hl2 [2, 3, 1, 0] rfl)
noncomputable def m_X4_followingFigure_K12 (z12 : Int32) : Option (Int32) :=
  some (-4 : Int32)
noncomputable def m_X4_followingFigure_J75 (v : SV) (u : SV) (w : SV) (z12 : Int32) (z75 : Int32) : Option ((Int32) ⊕ ((Int32) ⊕ (Int32))) :=
  (if z75 = 0 then some (.inl (z12 + (1 : Int32))) else (if (u 0 0) ≤ (v 0 3) then some (.inr (.inr z12)) else (m_X4_timesAhead v u w z12).bind (fun y96 => (if (v 0 3) ≤ y96 then some (.inl (z12 + (1 : Int32))) else some (.inr (.inr z12))))))
noncomputable def m_X4_followingFigure_J74 (v : SV) (u : SV) (w : SV) (z12 : Int32) (z74 : Unit) : Option ((Int32) ⊕ ((Int32) ⊕ (Int32))) :=
  m_X4_followingFigure_J75 v u w z12 (0 : Int32)
noncomputable def m_X4_followingFigure_L12 (v : SV) (u : SV) (w : SV) (z12 : Int32) : Option ((Int32) ⊕ ((Int32) ⊕ (Int32))) :=
  (if (u 0 1) ≤ z12 then some (.inr (.inl z12)) else ck (inB (v 0 5) 6) ((if (((v 9 (((v 0 5)).toNatClampNeg)) >>> (z12 &&& 31)) &&& (1 : Int32)) = (1 : Int32) then ck (inB (v 0 5) 7) (ck (inB (((v 0 5) * (5 : Int32)) + z12) 30) ((if (v 0 4) ≤ ((v 10 (((v 0 5)).toNatClampNeg)) + (v 11 (((((v 0 5) * (5 : Int32)) + z12)).toNatClampNeg))) then m_X4_followingFigure_J74 v u w z12 () else m_X4_followingFigure_J75 v u w z12 (1 : Int32)))) else m_X4_followingFigure_J74 v u w z12 ())))
noncomputable def m_X4_followingFigure (v : SV) (u : SV) (w : SV) : Option (Int32) :=
  ck (inB (v 0 5) 6) ((lpC (m_X4_followingFigure_L12 v u w) ((v 8 (((v 0 5)).toNatClampNeg)) + (1 : Int32))).bind (Sum.elim (m_X4_followingFigure_K12) (fun y => some y)))
set_option maxHeartbeats 4000000 in
set_option maxRecDepth 100000 in
theorem c_X4_followingFigure (l : Launch) (D : va_G) (q : Nat → ClassId) (a : Nat → Nat) (v : SV) (b : Nat → Nat) (u : SV) (ea : Nat → Nat) (w : SV) (res : Int32) (hm : m_X4_followingFigure v u w = some res) : Met l yX4_followingFigure (mw yX4_followingFigure cX4_followingFigure 3 (some .int)) ({ frames := 1, cells := 0, slots := 0, locals := 23 } : Room) (pcR D q (wX4 q a v (b 99) (ea 99) ++ (wX3 q b u ++ wX1 q ea w)) [.ref (a 99)]) (vp_Si (fun x => x = res)) 0 0 (fun _ => False) := by
  refine Met.ofW (cc := cX4_followingFigure) (maxL := 3) (ret := (some .int)) (by decide) rfl ?_
  intro p e s m args below meth c s₁ B hml hv
  obtain ⟨rfl, hP0, hK⟩ := hv
  have hx := B.exec
  have hb := B.bytes
  have hr := B.returns
  have hW := mw_ws (atoms_spec (ws := mw yX4_followingFigure cX4_followingFigure 3 (some .int)) B.pre)
  have hown : s.vm.findClass RX4 = some m.cls := findClass_of_methodNamed B.named
  have hlocks := B.notSynchronized
  have X : Cx p s m [.ref (a 99)].toArray c cX4_followingFigure 3 RX4 D q := ⟨hx, hb, hml, hown, hW, hK⟩
  have hl0 := lv_entry ([.ref (a 99)]) (n := 3) (Nat.le_of_ble_eq_true rfl)
  rw [lg_entry_eq]
  generalize (lg_sl ([.ref (a 99)]) ++ List.replicate (3 - (lg_sl ([.ref (a 99)])).length) Slot.unset).toArray = ls0 at hl0 ⊢
  have hl0 : lv_has ls0 3 [(0, .ref (a 99))] := hl0
  unfold m_X4_followingFigure at hm
  refine lv_aload_n hx hb dX4_followingFigure_0 rfl (lv_at hl0 0 rfl) ?_
  refine va_get (D := D) (ci := 4) (v := .ref (a 8)) (C := RX4) (T := TX4) (N := 12) hx hb hW iX4 hown hK hP0 0 rfl rfl 8 (by decide) (hW _ k_260) (fun _ h => h) rfl dX4_followingFigure_1 ?_
  refine lv_aload_n hx hb dX4_followingFigure_4 rfl (lv_at hl0 0 rfl) ?_
  refine va_get (D := D) (ci := 4) (v := .int (v 0 5)) (C := RX4) (T := TX4) (N := 12) hx hb hW iX4 hown hK hP0 0 rfl rfl 5 (by decide) (hW _ k_257) (fun _ h => h) rfl dX4_followingFigure_5 ?_
  obtain ⟨h1, hm⟩ := ckd hm
  refine va_iald (f := (v 8)) hx hb hK hP0 2 0 rfl rfl (inB_vp h1) dX4_followingFigure_8 ?_
  refine lv_iconst (v := (1 : Int32)) hx hb dX4_followingFigure_9 (by decide) ?_
  refine lv_iadd hx hb dX4_followingFigure_10 ?_
  refine lv_istore_n (lv' := [(1, .int ((v 8 (((v 0 5)).toNatClampNeg)) + (1 : Int32))), (0, .ref (a 99))]) hx hb dX4_followingFigure_11 rfl hl0 (by decide) rfl (fun ls2 hl2 => ?_)
  clear hl0
  obtain ⟨r12, hr12, hm⟩ := bn hm
  obtain ⟨n12, hn12⟩ := lpC_ex hr12
  have hE12 : ∀ z12 : Int32, m_X4_followingFigure_K12 z12 = some res → ∀ ls : Array Slot, lv_has ls 3 [] → W p l e ((headSpec (mw yX4_followingFigure cX4_followingFigure 3 (some .int)) ({ frames := 1, cells := 0, slots := 0, locals := 23 } : Room)).room) s m [.ref (a 99)].toArray below meth c s.heap [] 0 0 (MQ below (vp_Si (fun x => x = res)) [.ref (a 99)].toArray s 0 0 (fun _ => False)) (F0 m 114 ls []) := by
    intro z12 hm ls4 hl4
    unfold m_X4_followingFigure_K12 at hm
    refine lv_bipush (v := (-4 : Int32)) hx hb dX4_followingFigure_114 (by decide) ?_
    exact eRi  X hr hlocks hm dX4_followingFigure_116
  have hL12 : ∀ (n : Nat) (z12 : Int32) (ρ12 : (Int32) ⊕ (Int32)), lpO (m_X4_followingFigure_L12 v u w) n z12 = some ρ12 → (Sum.elim (m_X4_followingFigure_K12) (fun y => some y)) ρ12 = some res → ∀ ls : Array Slot, lv_has ls 3 [(0, .ref (a 99)), (1, .int z12)] → W p l e ((headSpec (mw yX4_followingFigure cX4_followingFigure 3 (some .int)) ({ frames := 1, cells := 0, slots := 0, locals := 23 } : Room)).room) s m [.ref (a 99)].toArray below meth c s.heap [] 0 0 (MQ below (vp_Si (fun x => x = res)) [.ref (a 99)].toArray s 0 0 (fun _ => False)) (F0 m 12 ls []) := by
    intro n
    induction n with
    | zero => intro _ _ h; cases h
    | succ n ih12 =>
      intro z12 ρ12 hz12 hK12 ls3 hl3
      obtain ⟨t12, hm, hz12⟩ := bn hz12
      unfold m_X4_followingFigure_L12 at hm
      refine lv_iload_n hx hb dX4_followingFigure_12 rfl (lv_at hl3 1 rfl) ?_
      refine lv_aload_n hx hb dX4_followingFigure_13 rfl (lv_at hl3 0 rfl) ?_
      refine va_get (D := D) (ci := 4) (v := .ref (b 99)) (C := RX4) (T := TX4) (N := 12) hx hb hW iX4 hown hK hP0 0 rfl rfl 0 (by decide) (hW _ k_251) (fun _ h => h) rfl dX4_followingFigure_14 ?_
      refine va_get (D := D) (ci := 3) (v := .int (u 0 1)) (C := RX3) (T := TX3) (N := 17) hx hb hW iX3 hown hK hP0 6 rfl rfl 1 (by decide) (hW _ k_87) (fun _ h => h) rfl dX4_followingFigure_17 ?_
      refine lv_icmp_ge (tgt := 114) hx hb dX4_followingFigure_20 (by decide) (fun c20 => ?_) (fun c20 => ?_)
      · replace hm := tp hm c20
        cases hm
        cases hz12
        exact hE12 z12 hK12 _ (lv_sub hl3 [] rfl)
      · replace hm := tn hm c20
        refine lv_aload_n hx hb dX4_followingFigure_23 rfl (lv_at hl3 0 rfl) ?_
        refine va_get (D := D) (ci := 4) (v := .ref (a 9)) (C := RX4) (T := TX4) (N := 12) hx hb hW iX4 hown hK hP0 0 rfl rfl 9 (by decide) (hW _ k_261) (fun _ h => h) rfl dX4_followingFigure_24 ?_
        refine lv_aload_n hx hb dX4_followingFigure_27 rfl (lv_at hl3 0 rfl) ?_
        refine va_get (D := D) (ci := 4) (v := .int (v 0 5)) (C := RX4) (T := TX4) (N := 12) hx hb hW iX4 hown hK hP0 0 rfl rfl 5 (by decide) (hW _ k_257) (fun _ h => h) rfl dX4_followingFigure_28 ?_
        obtain ⟨h5, hm⟩ := ckd hm
        refine va_iald (f := (v 9)) hx hb hK hP0 3 0 rfl rfl (inB_vp h5) dX4_followingFigure_31 ?_
        refine lv_iload_n hx hb dX4_followingFigure_32 rfl (lv_at hl3 1 rfl) ?_
        refine lv_ishr hx hb dX4_followingFigure_33 ?_
        refine lv_iconst (v := (1 : Int32)) hx hb dX4_followingFigure_34 (by decide) ?_
        refine lv_iand hx hb dX4_followingFigure_35 ?_
        refine lv_iconst (v := (1 : Int32)) hx hb dX4_followingFigure_36 (by decide) ?_
        have hJ75 : ∀ z75 : Int32, m_X4_followingFigure_J75 v u w z12 z75 = some t12 → ∀ ls : Array Slot, lv_has ls 3 [(0, .ref (a 99)), (1, .int z12)] → W p l e ((headSpec (mw yX4_followingFigure cX4_followingFigure 3 (some .int)) ({ frames := 1, cells := 0, slots := 0, locals := 23 } : Room)).room) s m [.ref (a 99)].toArray below meth c s.heap [] 0 0 (MQ below (vp_Si (fun x => x = res)) [.ref (a 99)].toArray s 0 0 (fun _ => False)) (F0 m 75 ls [.int z75]) := by
          intro z75 hm ls6 hl6
          unfold m_X4_followingFigure_J75 at hm
          refine lv_istore_n (lv' := [(2, .int z75), (0, .ref (a 99)), (1, .int z12)]) hx hb dX4_followingFigure_75 rfl hl6 (by decide) rfl (fun ls7 hl7 => ?_)
          clear hl6
          refine lv_iload_n hx hb dX4_followingFigure_76 rfl (lv_at hl7 0 rfl) ?_
          refine lv_if_eq (tgt := 108) hx hb dX4_followingFigure_77 (by decide) (fun c77 => ?_) (fun c77 => ?_)
          · replace hm := tp hm c77
            refine lv_iinc (v := (z12 + (1 : Int32))) (lv' := [(1, .int (z12 + (1 : Int32))), (2, .int z75), (0, .ref (a 99))]) hx hb dX4_followingFigure_108 hl7 (k := 2) rfl rfl (by decide) rfl (fun ls8 hl8 => ?_)
            clear hl7
            refine lv_goto (tgt := 12) hx hb dX4_followingFigure_111 (by decide) ?_
            cases hm
            exact ih12 (z12 + (1 : Int32)) ρ12 hz12 hK12 _ (lv_sub hl8 [2, 0] rfl)
          · replace hm := tn hm c77
            refine lv_aload_n hx hb dX4_followingFigure_80 rfl (lv_at hl7 1 rfl) ?_
            refine va_get (D := D) (ci := 4) (v := .int (v 0 3)) (C := RX4) (T := TX4) (N := 12) hx hb hW iX4 hown hK hP0 0 rfl rfl 3 (by decide) (hW _ k_254) (fun _ h => h) rfl dX4_followingFigure_81 ?_
            refine lv_aload_n hx hb dX4_followingFigure_84 rfl (lv_at hl7 1 rfl) ?_
            refine va_get (D := D) (ci := 4) (v := .ref (b 99)) (C := RX4) (T := TX4) (N := 12) hx hb hW iX4 hown hK hP0 0 rfl rfl 0 (by decide) (hW _ k_251) (fun _ h => h) rfl dX4_followingFigure_85 ?_
            refine va_get (D := D) (ci := 3) (v := .int (u 0 0)) (C := RX3) (T := TX3) (N := 17) hx hb hW iX3 hown hK hP0 6 rfl rfl 0 (by decide) (hW _ k_83) (fun _ h => h) rfl dX4_followingFigure_88 ?_
            refine lv_icmp_ge (tgt := 106) hx hb dX4_followingFigure_91 (by decide) (fun c91 => ?_) (fun c91 => ?_)
            · replace hm := tp hm c91
              refine lv_iload_n hx hb dX4_followingFigure_106 rfl (lv_at hl7 2 rfl) ?_
              cases hm
              cases hz12
              have hm : (some z12 : Option (Int32)) = some res := hK12
              exact eRi  X hr hlocks hm dX4_followingFigure_107
            · replace hm := tn hm c91
              refine lv_aload_n hx hb dX4_followingFigure_94 rfl (lv_at hl7 1 rfl) ?_
              refine lv_iload_n hx hb dX4_followingFigure_95 rfl (lv_at hl7 2 rfl) ?_
              obtain ⟨y96, hy96, hm⟩ := bn hm
              refine cVRi (As := [.int z12]) (rest := []) X hP0 hl7.1 (c_X4_timesAhead l D q a v b u ea w z12 y96 hy96) [0, 1, 2, 3, 4, 5, 6, 7, 8, 9, 10, 11, 12, 13, 14, 15, 16, 17, 18, 19, 20, 21] rfl 0 rfl rfl rfl k_679 mX4_timesAhead ⟨rfl, rfl⟩ ⟨Nat.le_of_ble_eq_true rfl, Nat.le_of_ble_eq_true rfl⟩ rfl rfl (Nat.le_of_ble_eq_true rfl) dX4_followingFigure_96 ⟨Nat.zero_le _, Nat.zero_le _⟩ ?_
              refine lv_aload_n hx hb dX4_followingFigure_99 rfl (lv_at hl7 1 rfl) ?_
              refine va_get (D := D) (ci := 4) (v := .int (v 0 3)) (C := RX4) (T := TX4) (N := 12) hx hb hW iX4 hown hK hP0 0 rfl rfl 3 (by decide) (hW _ k_254) (fun _ h => h) rfl dX4_followingFigure_100 ?_
              refine lv_icmp_ge (tgt := 108) hx hb dX4_followingFigure_103 (by decide) (fun c103 => ?_) (fun c103 => ?_)
              · replace hm := tp hm c103
                refine lv_iinc (v := (z12 + (1 : Int32))) (lv' := [(1, .int (z12 + (1 : Int32))), (2, .int z75), (0, .ref (a 99))]) hx hb dX4_followingFigure_108 hl7 (k := 2) rfl rfl (by decide) rfl (fun ls9 hl9 => ?_)
                clear hl7
                refine lv_goto (tgt := 12) hx hb dX4_followingFigure_111 (by decide) ?_
                cases hm
                exact ih12 (z12 + (1 : Int32)) ρ12 hz12 hK12 _ (lv_sub hl9 [2, 0] rfl)
              · replace hm := tn hm c103
                refine lv_iload_n hx hb dX4_followingFigure_106 rfl (lv_at hl7 2 rfl) ?_
                cases hm
                cases hz12
                have hm : (some z12 : Option (Int32)) = some res := hK12
                exact eRi  X hr hlocks hm dX4_followingFigure_107
        have hJ74 : ∀ z74 : Unit, m_X4_followingFigure_J74 v u w z12 z74 = some t12 → ∀ ls : Array Slot, lv_has ls 3 [(0, .ref (a 99)), (1, .int z12)] → W p l e ((headSpec (mw yX4_followingFigure cX4_followingFigure 3 (some .int)) ({ frames := 1, cells := 0, slots := 0, locals := 23 } : Room)).room) s m [.ref (a 99)].toArray below meth c s.heap [] 0 0 (MQ below (vp_Si (fun x => x = res)) [.ref (a 99)].toArray s 0 0 (fun _ => False)) (F0 m 74 ls []) := by
          intro z74 hm ls10 hl10
          unfold m_X4_followingFigure_J74 at hm
          refine lv_iconst (v := (0 : Int32)) hx hb dX4_followingFigure_74 (by decide) ?_
          exact hJ75 (0 : Int32) hm _ (lv_sub hl10 [0, 1] rfl)
        refine lv_icmp_ne (tgt := 74) hx hb dX4_followingFigure_37 (by decide) (fun c37 => ?_) (fun c37 => ?_)
        · replace hm := tn hm c37
          exact hJ74 () hm _ (lv_sub hl3 [0, 1] rfl)
        · replace hm := tp hm c37
          refine lv_aload_n hx hb dX4_followingFigure_40 rfl (lv_at hl3 0 rfl) ?_
          refine va_get (D := D) (ci := 4) (v := .ref (a 10)) (C := RX4) (T := TX4) (N := 12) hx hb hW iX4 hown hK hP0 0 rfl rfl 10 (by decide) (hW _ k_262) (fun _ h => h) rfl dX4_followingFigure_41 ?_
          refine lv_aload_n hx hb dX4_followingFigure_44 rfl (lv_at hl3 0 rfl) ?_
          refine va_get (D := D) (ci := 4) (v := .int (v 0 5)) (C := RX4) (T := TX4) (N := 12) hx hb hW iX4 hown hK hP0 0 rfl rfl 5 (by decide) (hW _ k_257) (fun _ h => h) rfl dX4_followingFigure_45 ?_
          obtain ⟨h11, hm⟩ := ckd hm
          refine va_iald (f := (v 10)) hx hb hK hP0 4 0 rfl rfl (inB_vp h11) dX4_followingFigure_48 ?_
          refine lv_aload_n hx hb dX4_followingFigure_49 rfl (lv_at hl3 0 rfl) ?_
          refine va_get (D := D) (ci := 4) (v := .ref (a 11)) (C := RX4) (T := TX4) (N := 12) hx hb hW iX4 hown hK hP0 0 rfl rfl 11 (by decide) (hW _ k_263) (fun _ h => h) rfl dX4_followingFigure_50 ?_
          refine lv_aload_n hx hb dX4_followingFigure_53 rfl (lv_at hl3 0 rfl) ?_
          refine va_get (D := D) (ci := 4) (v := .int (v 0 5)) (C := RX4) (T := TX4) (N := 12) hx hb hW iX4 hown hK hP0 0 rfl rfl 5 (by decide) (hW _ k_257) (fun _ h => h) rfl dX4_followingFigure_54 ?_
          refine lv_iconst (v := (5 : Int32)) hx hb dX4_followingFigure_57 (by decide) ?_
          refine lv_imul hx hb dX4_followingFigure_58 ?_
          refine lv_iload_n hx hb dX4_followingFigure_59 rfl (lv_at hl3 1 rfl) ?_
          refine lv_iadd hx hb dX4_followingFigure_60 ?_
          obtain ⟨h12, hm⟩ := ckd hm
          refine va_iald (f := (v 11)) hx hb hK hP0 5 0 rfl rfl (inB_vp h12) dX4_followingFigure_61 ?_
          refine lv_iadd hx hb dX4_followingFigure_62 ?_
          refine lv_aload_n hx hb dX4_followingFigure_63 rfl (lv_at hl3 0 rfl) ?_
          refine va_get (D := D) (ci := 4) (v := .int (v 0 4)) (C := RX4) (T := TX4) (N := 12) hx hb hW iX4 hown hK hP0 0 rfl rfl 4 (by decide) (hW _ k_256) (fun _ h => h) rfl dX4_followingFigure_64 ?_
          refine lv_icmp_ge (tgt := 74) hx hb dX4_followingFigure_67 (by decide) (fun c67 => ?_) (fun c67 => ?_)
          · replace hm := tp hm c67
            exact hJ74 () hm _ (lv_sub hl3 [0, 1] rfl)
          · replace hm := tn hm c67
            refine lv_iconst (v := (1 : Int32)) hx hb dX4_followingFigure_70 (by decide) ?_
            refine lv_goto (tgt := 75) hx hb dX4_followingFigure_71 (by decide) ?_
            exact hJ75 (1 : Int32) hm _ (lv_sub hl3 [0, 1] rfl)
  exact hL12 n12 ((v 8 (((v 0 5)).toNatClampNeg)) + (1 : Int32)) r12 hn12 hm _ (lv_sub hl2 [1, 0] rfl)
noncomputable def m_X4_advance_K2 (z2 : Int32 × SV) : Option (Int32 × SV) :=
  some ((0 : Int32), z2.2)
noncomputable def m_X4_advance_L2 (u : SV) (w : SV) (z2 : Int32 × SV) : Option ((Int32 × SV) ⊕ ((Int32 × SV) ⊕ (Int32 × SV))) :=
  (if (1000000 : Int32) ≤ z2.1 then some (.inr (.inl (z2.1, z2.2))) else (if (z2.2 0 5) < 0 then some (.inr (.inl (z2.1, z2.2))) else (m_X4_followingFigure z2.2 u w).bind (fun y16 => (if y16 = (-4 : Int32) then lett (up2 z2.2 0 5 ((z2.2 0 5) - (1 : Int32))) (fun v7_ => some (.inl ((z2.1 + (1 : Int32)), v7_))) else ck (inB (z2.2 0 5) 6) (lett (up2 z2.2 8 (((z2.2 0 5)).toNatClampNeg) y16) (fun v10_ => ck (inB (v10_ 0 5) 7) (ck (inB (((v10_ 0 5) * (5 : Int32)) + y16) 30) (ck (inB ((v10_ 0 5) + (1 : Int32)) 7) (lett (up2 v10_ 10 ((((v10_ 0 5) + (1 : Int32))).toNatClampNeg) ((v10_ 10 (((v10_ 0 5)).toNatClampNeg)) + (v10_ 11 (((((v10_ 0 5) * (5 : Int32)) + y16)).toNatClampNeg)))) (fun v14_ => (if (v14_ 0 5) = ((v14_ 0 6) - (1 : Int32)) then some (.inr (.inr ((1 : Int32), v14_))) else (m_X4_open v14_ u w ((v14_ 0 5) + (1 : Int32))).bind (fun y105 => some (.inl ((z2.1 + (1 : Int32)), y105))))))))))))))
noncomputable def m_X4_advance (v : SV) (u : SV) (w : SV) : Option (Int32 × SV) :=
  (lpC (m_X4_advance_L2 u w) ((0 : Int32), v)).bind (Sum.elim (m_X4_advance_K2) (fun y => some y))
set_option maxHeartbeats 4000000 in
set_option maxRecDepth 100000 in
theorem c_X4_advance (l : Launch) (D : va_G) (q : Nat → ClassId) (sz : Nat) (a : Nat → Nat) (v : SV) (b : Nat → Nat) (u : SV) (ea : Nat → Nat) (w : SV) (res : Int32 × SV) (hm : m_X4_advance v u w = some res) : Met l yX4_advance (mw yX4_advance cX4_advance 3 (some .boolean)) ({ frames := 3, cells := 0, slots := 0, locals := 66 } : Room) (pcW D q (wX4 q a v (b 99) (ea 99) ++ (wX3 q b u ++ wX1 q ea w)) sz [.ref (a 99)]) (va_Qi (fun r w => r = res.1 ∧ w = res.2) (bW D q (wX4 q a v (b 99) (ea 99) ++ (wX3 q b u ++ wX1 q ea w)) sz (fun (uu : SV) => wX4 q a uu (b 99) (ea 99) ++ (wX3 q b u ++ wX1 q ea w))) (va_A (wX4 q a v (b 99) (ea 99) ++ (wX3 q b u ++ wX1 q ea w)) sz)) 0 0 (va_A (wX4 q a v (b 99) (ea 99) ++ (wX3 q b u ++ wX1 q ea w)) sz) := by
  refine Met.ofW (cc := cX4_advance) (maxL := 3) (ret := (some .boolean)) (by decide) rfl ?_
  intro p e s m args below meth c s₁ B hml hv
  obtain ⟨rfl, hsz, hP0, hK, hD0⟩ := hv
  have hx := B.exec
  have hb := B.bytes
  have hr := B.returns
  have hW := mw_ws (atoms_spec (ws := mw yX4_advance cX4_advance 3 (some .boolean)) B.pre)
  have hown : s.vm.findClass RX4 = some m.cls := findClass_of_methodNamed B.named
  have hlocks := B.notSynchronized
  have X : Cx p s m [.ref (a 99)].toArray c cX4_advance 3 RX4 D q := ⟨hx, hb, hml, hown, hW, hK⟩
  subst hsz
  replace hD0 := hD0.self (sz := s.heap.size)
  have hS0 : va_S (va_A (wX4 q a v (b 99) (ea 99) ++ (wX3 q b u ++ wX1 q ea w)) s.heap.size) s.heap s.heap [] := va_S.rf
  have hl0 := lv_entry ([.ref (a 99)]) (n := 3) (Nat.le_of_ble_eq_true rfl)
  rw [lg_entry_eq]
  generalize (lg_sl ([.ref (a 99)]) ++ List.replicate (3 - (lg_sl ([.ref (a 99)])).length) Slot.unset).toArray = ls0 at hl0 ⊢
  have hl0 : lv_has ls0 3 [(0, .ref (a 99))] := hl0
  unfold m_X4_advance at hm
  refine lv_iconst (v := (0 : Int32)) hx hb dX4_advance_0 (by decide) ?_
  refine lv_istore_n (lv' := [(1, .int (0 : Int32)), (0, .ref (a 99))]) hx hb dX4_advance_1 rfl hl0 (by decide) rfl (fun ls1 hl1 => ?_)
  clear hl0
  obtain ⟨r2, hr2, hm⟩ := bn hm
  obtain ⟨n2, hn2⟩ := lpC_ex hr2
  have hE2 : ∀ z2 : Int32 × SV, m_X4_advance_K2 z2 = some res → ∀ (H : Heap) (locs : List Loc), va_P D cls (wX4 q a z2.2 (b 99) (ea 99) ++ (wX3 q b u ++ wX1 q ea w)) H → va_D (va_A (wX4 q a v (b 99) (ea 99) ++ (wX3 q b u ++ wX1 q ea w)) s.heap.size) (wX4 q a z2.2 (b 99) (ea 99) ++ (wX3 q b u ++ wX1 q ea w)) → va_S (va_A (wX4 q a v (b 99) (ea 99) ++ (wX3 q b u ++ wX1 q ea w)) s.heap.size) s.heap H locs → ∀ ls : Array Slot, lv_has ls 3 [] → W p l e ((headSpec (mw yX4_advance cX4_advance 3 (some .boolean)) ({ frames := 3, cells := 0, slots := 0, locals := 66 } : Room)).room) s m [.ref (a 99)].toArray below meth c H locs 0 0 (MQ below (va_Qi (fun r w => r = res.1 ∧ w = res.2) (bW D q (wX4 q a v (b 99) (ea 99) ++ (wX3 q b u ++ wX1 q ea w)) s.heap.size (fun (uu : SV) => wX4 q a uu (b 99) (ea 99) ++ (wX3 q b u ++ wX1 q ea w))) (va_A (wX4 q a v (b 99) (ea 99) ++ (wX3 q b u ++ wX1 q ea w)) s.heap.size)) [.ref (a 99)].toArray s 0 0 (va_A (wX4 q a v (b 99) (ea 99) ++ (wX3 q b u ++ wX1 q ea w)) s.heap.size)) (F0 m 114 ls []) := by
    intro z2 hm H5 locs5 hP5 hD5 hS5 ls4 hl4
    unfold m_X4_advance_K2 at hm
    refine lv_iconst (v := (0 : Int32)) hx hb dX4_advance_114 (by decide) ?_
    exact eWz (Wf := fun (uu : SV) => wX4 q a uu (b 99) (ea 99) ++ (wX3 q b u ++ wX1 q ea w)) (u := z2.2) X hr hlocks rfl hP5 hD5 hS5 hm dX4_advance_115
  have hL2 : ∀ (n : Nat) (z2 : Int32 × SV) (ρ2 : (Int32 × SV) ⊕ (Int32 × SV)), lpO (m_X4_advance_L2 u w) n z2 = some ρ2 → (Sum.elim (m_X4_advance_K2) (fun y => some y)) ρ2 = some res → ∀ (H : Heap) (locs : List Loc), va_P D cls (wX4 q a z2.2 (b 99) (ea 99) ++ (wX3 q b u ++ wX1 q ea w)) H → va_D (va_A (wX4 q a v (b 99) (ea 99) ++ (wX3 q b u ++ wX1 q ea w)) s.heap.size) (wX4 q a z2.2 (b 99) (ea 99) ++ (wX3 q b u ++ wX1 q ea w)) → va_S (va_A (wX4 q a v (b 99) (ea 99) ++ (wX3 q b u ++ wX1 q ea w)) s.heap.size) s.heap H locs → ∀ ls : Array Slot, lv_has ls 3 [(0, .ref (a 99)), (1, .int z2.1)] → W p l e ((headSpec (mw yX4_advance cX4_advance 3 (some .boolean)) ({ frames := 3, cells := 0, slots := 0, locals := 66 } : Room)).room) s m [.ref (a 99)].toArray below meth c H locs 0 0 (MQ below (va_Qi (fun r w => r = res.1 ∧ w = res.2) (bW D q (wX4 q a v (b 99) (ea 99) ++ (wX3 q b u ++ wX1 q ea w)) s.heap.size (fun (uu : SV) => wX4 q a uu (b 99) (ea 99) ++ (wX3 q b u ++ wX1 q ea w))) (va_A (wX4 q a v (b 99) (ea 99) ++ (wX3 q b u ++ wX1 q ea w)) s.heap.size)) [.ref (a 99)].toArray s 0 0 (va_A (wX4 q a v (b 99) (ea 99) ++ (wX3 q b u ++ wX1 q ea w)) s.heap.size)) (F0 m 2 ls []) := by
    intro n
    induction n with
    | zero => intro _ _ h; cases h
    | succ n ih2 =>
      intro z2 ρ2 hz2 hK2 H3 locs3 hP3 hD3 hS3 ls2 hl2
      obtain ⟨t2, hm, hz2⟩ := bn hz2
      unfold m_X4_advance_L2 at hm
      refine lv_iload_n hx hb dX4_advance_2 rfl (lv_at hl2 1 rfl) ?_
      refine lv_ldc (v := (1000000 : Int32)) hx hb hown (hW _ k_670) dX4_advance_3 ?_
      refine lv_icmp_ge (tgt := 114) hx hb dX4_advance_5 (by decide) (fun c5 => ?_) (fun c5 => ?_)
      · replace hm := tp hm c5
        cases hm
        cases hz2
        exact hE2 (z2.1, z2.2) hK2 _ _ hP3 hD3 hS3 _ (lv_sub hl2 [] rfl)
      · replace hm := tn hm c5
        refine lv_aload_n hx hb dX4_advance_8 rfl (lv_at hl2 0 rfl) ?_
        refine va_get (D := D) (ci := 4) (v := .int (z2.2 0 5)) (C := RX4) (T := TX4) (N := 12) hx hb hW iX4 hown hK hP3 0 rfl rfl 5 (by decide) (hW _ k_257) (fun _ h => h) rfl dX4_advance_9 ?_
        refine lv_if_lt (tgt := 114) hx hb dX4_advance_12 (by decide) (fun c12 => ?_) (fun c12 => ?_)
        · replace hm := tp hm c12
          cases hm
          cases hz2
          exact hE2 (z2.1, z2.2) hK2 _ _ hP3 hD3 hS3 _ (lv_sub hl2 [] rfl)
        · replace hm := tn hm c12
          refine lv_aload_n hx hb dX4_advance_15 rfl (lv_at hl2 0 rfl) ?_
          obtain ⟨y16, hy16, hm⟩ := bn hm
          refine cVRi (As := []) (rest := []) X hP3 hl2.1 (c_X4_followingFigure l D q a z2.2 b u ea w y16 hy16) [0, 1, 2, 3, 4, 5, 6, 7, 8, 9, 10, 11, 12, 13, 14, 15, 16, 17, 18, 19, 20, 21] rfl 0 rfl rfl rfl k_675 mX4_followingFigure ⟨rfl, rfl⟩ ⟨Nat.le_of_ble_eq_true rfl, Nat.le_of_ble_eq_true rfl⟩ rfl rfl (Nat.le_of_ble_eq_true rfl) dX4_advance_16 ⟨Nat.zero_le _, Nat.zero_le _⟩ ?_
          refine lv_istore_n (lv' := [(2, .int y16), (0, .ref (a 99)), (1, .int z2.1)]) hx hb dX4_advance_19 rfl hl2 (by decide) rfl (fun ls6 hl6 => ?_)
          clear hl2
          refine lv_iload_n hx hb dX4_advance_20 rfl (lv_at hl6 0 rfl) ?_
          refine lv_bipush (v := (-4 : Int32)) hx hb dX4_advance_21 (by decide) ?_
          refine lv_icmp_ne (tgt := 39) hx hb dX4_advance_23 (by decide) (fun c23 => ?_) (fun c23 => ?_)
          · replace hm := tn hm c23
            refine lv_aload_n hx hb dX4_advance_39 rfl (lv_at hl6 1 rfl) ?_
            refine va_get (D := D) (ci := 4) (v := .ref (a 8)) (C := RX4) (T := TX4) (N := 12) hx hb hW iX4 hown hK hP3 0 rfl rfl 8 (by decide) (hW _ k_260) (fun _ h => h) rfl dX4_advance_40 ?_
            refine lv_aload_n hx hb dX4_advance_43 rfl (lv_at hl6 1 rfl) ?_
            refine va_get (D := D) (ci := 4) (v := .int (z2.2 0 5)) (C := RX4) (T := TX4) (N := 12) hx hb hW iX4 hown hK hP3 0 rfl rfl 5 (by decide) (hW _ k_257) (fun _ h => h) rfl dX4_advance_44 ?_
            refine lv_iload_n hx hb dX4_advance_47 rfl (lv_at hl6 0 rfl) ?_
            obtain ⟨h9, hm⟩ := ckd hm
            refine va_iast (f := (z2.2 8)) hx hb hK hP3 hD3 hS3 2 0 rfl rfl (inB_vp h9) dX4_advance_48 (fun H10 locs10 hP hD hS10 => ?_)
            obtain ⟨v10_, e10, hm⟩ := ltd hm
            have hP10 : va_P D cls (wX4 q a v10_ (b 99) (ea 99) ++ (wX3 q b u ++ wX1 q ea w)) H10 := by rw [e10]; exact hP
            have hD10 : va_D (va_A (wX4 q a v (b 99) (ea 99) ++ (wX3 q b u ++ wX1 q ea w)) s.heap.size) (wX4 q a v10_ (b 99) (ea 99) ++ (wX3 q b u ++ wX1 q ea w)) := by rw [e10]; exact hD
            clear hP hD hP3 hD3 hS3
            refine lv_aload_n hx hb dX4_advance_49 rfl (lv_at hl6 1 rfl) ?_
            refine va_get (D := D) (ci := 4) (v := .ref (a 10)) (C := RX4) (T := TX4) (N := 12) hx hb hW iX4 hown hK hP10 0 rfl rfl 10 (by decide) (hW _ k_262) (fun _ h => h) rfl dX4_advance_50 ?_
            refine lv_aload_n hx hb dX4_advance_53 rfl (lv_at hl6 1 rfl) ?_
            refine va_get (D := D) (ci := 4) (v := .int (v10_ 0 5)) (C := RX4) (T := TX4) (N := 12) hx hb hW iX4 hown hK hP10 0 rfl rfl 5 (by decide) (hW _ k_257) (fun _ h => h) rfl dX4_advance_54 ?_
            refine lv_iconst (v := (1 : Int32)) hx hb dX4_advance_57 (by decide) ?_
            refine lv_iadd hx hb dX4_advance_58 ?_
            refine lv_aload_n hx hb dX4_advance_59 rfl (lv_at hl6 1 rfl) ?_
            refine va_get (D := D) (ci := 4) (v := .ref (a 10)) (C := RX4) (T := TX4) (N := 12) hx hb hW iX4 hown hK hP10 0 rfl rfl 10 (by decide) (hW _ k_262) (fun _ h => h) rfl dX4_advance_60 ?_
            refine lv_aload_n hx hb dX4_advance_63 rfl (lv_at hl6 1 rfl) ?_
            refine va_get (D := D) (ci := 4) (v := .int (v10_ 0 5)) (C := RX4) (T := TX4) (N := 12) hx hb hW iX4 hown hK hP10 0 rfl rfl 5 (by decide) (hW _ k_257) (fun _ h => h) rfl dX4_advance_64 ?_
            obtain ⟨h11, hm⟩ := ckd hm
            refine va_iald (f := (v10_ 10)) hx hb hK hP10 4 0 rfl rfl (inB_vp h11) dX4_advance_67 ?_
            refine lv_aload_n hx hb dX4_advance_68 rfl (lv_at hl6 1 rfl) ?_
            refine va_get (D := D) (ci := 4) (v := .ref (a 11)) (C := RX4) (T := TX4) (N := 12) hx hb hW iX4 hown hK hP10 0 rfl rfl 11 (by decide) (hW _ k_263) (fun _ h => h) rfl dX4_advance_69 ?_
            refine lv_aload_n hx hb dX4_advance_72 rfl (lv_at hl6 1 rfl) ?_
            refine va_get (D := D) (ci := 4) (v := .int (v10_ 0 5)) (C := RX4) (T := TX4) (N := 12) hx hb hW iX4 hown hK hP10 0 rfl rfl 5 (by decide) (hW _ k_257) (fun _ h => h) rfl dX4_advance_73 ?_
            refine lv_iconst (v := (5 : Int32)) hx hb dX4_advance_76 (by decide) ?_
            refine lv_imul hx hb dX4_advance_77 ?_
            refine lv_iload_n hx hb dX4_advance_78 rfl (lv_at hl6 0 rfl) ?_
            refine lv_iadd hx hb dX4_advance_79 ?_
            obtain ⟨h12, hm⟩ := ckd hm
            refine va_iald (f := (v10_ 11)) hx hb hK hP10 5 0 rfl rfl (inB_vp h12) dX4_advance_80 ?_
            refine lv_iadd hx hb dX4_advance_81 ?_
            obtain ⟨h13, hm⟩ := ckd hm
            refine va_iast (f := (v10_ 10)) hx hb hK hP10 hD10 hS10 4 0 rfl rfl (inB_vp h13) dX4_advance_82 (fun H14 locs14 hP hD hS14 => ?_)
            obtain ⟨v14_, e14, hm⟩ := ltd hm
            have hP14 : va_P D cls (wX4 q a v14_ (b 99) (ea 99) ++ (wX3 q b u ++ wX1 q ea w)) H14 := by rw [e14]; exact hP
            have hD14 : va_D (va_A (wX4 q a v (b 99) (ea 99) ++ (wX3 q b u ++ wX1 q ea w)) s.heap.size) (wX4 q a v14_ (b 99) (ea 99) ++ (wX3 q b u ++ wX1 q ea w)) := by rw [e14]; exact hD
            clear hP hD hP10 hD10 hS10
            refine lv_aload_n hx hb dX4_advance_83 rfl (lv_at hl6 1 rfl) ?_
            refine va_get (D := D) (ci := 4) (v := .int (v14_ 0 5)) (C := RX4) (T := TX4) (N := 12) hx hb hW iX4 hown hK hP14 0 rfl rfl 5 (by decide) (hW _ k_257) (fun _ h => h) rfl dX4_advance_84 ?_
            refine lv_aload_n hx hb dX4_advance_87 rfl (lv_at hl6 1 rfl) ?_
            refine va_get (D := D) (ci := 4) (v := .int (v14_ 0 6)) (C := RX4) (T := TX4) (N := 12) hx hb hW iX4 hown hK hP14 0 rfl rfl 6 (by decide) (hW _ k_258) (fun _ h => h) rfl dX4_advance_88 ?_
            refine lv_iconst (v := (1 : Int32)) hx hb dX4_advance_91 (by decide) ?_
            refine lv_isub hx hb dX4_advance_92 ?_
            refine lv_icmp_ne (tgt := 98) hx hb dX4_advance_93 (by decide) (fun c93 => ?_) (fun c93 => ?_)
            · replace hm := tn hm c93
              refine lv_aload_n hx hb dX4_advance_98 rfl (lv_at hl6 1 rfl) ?_
              refine lv_aload_n hx hb dX4_advance_99 rfl (lv_at hl6 1 rfl) ?_
              refine va_get (D := D) (ci := 4) (v := .int (v14_ 0 5)) (C := RX4) (T := TX4) (N := 12) hx hb hW iX4 hown hK hP14 0 rfl rfl 5 (by decide) (hW _ k_257) (fun _ h => h) rfl dX4_advance_100 ?_
              refine lv_iconst (v := (1 : Int32)) hx hb dX4_advance_103 (by decide) ?_
              refine lv_iadd hx hb dX4_advance_104 ?_
              obtain ⟨y105, hy105, hm⟩ := bn hm
              refine cVWv (As := [.int ((v14_ 0 5) + (1 : Int32))]) (rest := []) (Wn := fun (uu : SV) => wX4 q a uu (b 99) (ea 99) ++ (wX3 q b u ++ wX1 q ea w)) X hP14 hD14 hS14 (fun _ h => Or.inr h) hl6.1 (c_X4_open l D q H14.size a v14_ b u ea w ((v14_ 0 5) + (1 : Int32)) y105 hy105) [0, 1, 2, 3, 4, 5, 6, 7, 8, 9, 10, 11, 12, 13, 14, 15, 16, 17, 18, 19, 20, 21] [] [0, 1, 2, 3, 4, 5, 6, 7, 8, 9, 10, 11, 12, 13, 14, 15, 16, 17, 18, 19, 20, 21] rfl (Wr := []) rfl (by decide) (by decide) (by decide) (by decide) (fun _ => rfl) 0 rfl rfl rfl k_652 mX4_open ⟨rfl, rfl⟩ ⟨Nat.le_of_ble_eq_true rfl, Nat.le_of_ble_eq_true rfl⟩ rfl rfl (Nat.le_of_ble_eq_true rfl) dX4_advance_105 ⟨Nat.zero_le _, Nat.zero_le _⟩ (fun H15 locs15 hP hD hS15 => ?_)
              have hP15 : va_P D cls (wX4 q a y105 (b 99) (ea 99) ++ (wX3 q b u ++ wX1 q ea w)) H15 := hP
              have hD15 : va_D (va_A (wX4 q a v (b 99) (ea 99) ++ (wX3 q b u ++ wX1 q ea w)) s.heap.size) (wX4 q a y105 (b 99) (ea 99) ++ (wX3 q b u ++ wX1 q ea w)) := hD
              clear hP hD hP14 hD14 hS14
              refine lv_iinc (v := (z2.1 + (1 : Int32))) (lv' := [(1, .int (z2.1 + (1 : Int32))), (2, .int y16), (0, .ref (a 99))]) hx hb dX4_advance_108 hl6 (k := 2) rfl rfl (by decide) rfl (fun ls16 hl16 => ?_)
              clear hl6
              refine lv_goto (tgt := 2) hx hb dX4_advance_111 (by decide) ?_
              cases hm
              exact ih2 ((z2.1 + (1 : Int32)), y105) ρ2 hz2 hK2 _ _ hP15 hD15 hS15 _ (lv_sub hl16 [2, 0] rfl)
            · replace hm := tp hm c93
              refine lv_iconst (v := (1 : Int32)) hx hb dX4_advance_96 (by decide) ?_
              cases hm
              cases hz2
              have hm : (some ((1 : Int32), v14_) : Option (Int32 × SV)) = some res := hK2
              exact eWz (Wf := fun (uu : SV) => wX4 q a uu (b 99) (ea 99) ++ (wX3 q b u ++ wX1 q ea w)) (u := v14_) X hr hlocks rfl hP14 hD14 hS14 hm dX4_advance_97
          · replace hm := tp hm c23
            refine lv_aload_n hx hb dX4_advance_26 rfl (lv_at hl6 1 rfl) ?_
            refine lv_dup hx hb dX4_advance_27 rfl ?_
            refine va_get (D := D) (ci := 4) (v := .int (z2.2 0 5)) (C := RX4) (T := TX4) (N := 12) hx hb hW iX4 hown hK hP3 0 rfl rfl 5 (by decide) (hW _ k_257) (fun _ h => h) rfl dX4_advance_28 ?_
            refine lv_iconst (v := (1 : Int32)) hx hb dX4_advance_31 (by decide) ?_
            refine lv_isub hx hb dX4_advance_32 ?_
            refine va_put (D := D) (ci := 4) (v := .int ((z2.2 0 5) - (1 : Int32))) (ty := .int) (C := RX4) (T := TX4) (N := 12) hx hb hW iX4 tyX4 tyX4_ok nmX4 hown hK hP3 hD3 hS3 0 rfl rfl 5 (by decide) (hW _ k_257) (fun _ h => h) rfl (by decide +kernel) rfl rfl (Nat.le_of_ble_eq_true rfl) dX4_advance_33 (fun H7 locs7 hP hD hS7 => ?_)
            obtain ⟨v7_, e7, hm⟩ := ltd hm
            have hP7 : va_P D cls (wX4 q a v7_ (b 99) (ea 99) ++ (wX3 q b u ++ wX1 q ea w)) H7 := by rw [e7]; exact hP
            have hD7 : va_D (va_A (wX4 q a v (b 99) (ea 99) ++ (wX3 q b u ++ wX1 q ea w)) s.heap.size) (wX4 q a v7_ (b 99) (ea 99) ++ (wX3 q b u ++ wX1 q ea w)) := by rw [e7]; exact hD
            clear hP hD hP3 hD3 hS3
            refine lv_goto (tgt := 108) hx hb dX4_advance_36 (by decide) ?_
            refine lv_iinc (v := (z2.1 + (1 : Int32))) (lv' := [(1, .int (z2.1 + (1 : Int32))), (2, .int y16), (0, .ref (a 99))]) hx hb dX4_advance_108 hl6 (k := 2) rfl rfl (by decide) rfl (fun ls8 hl8 => ?_)
            clear hl6
            refine lv_goto (tgt := 2) hx hb dX4_advance_111 (by decide) ?_
            cases hm
            exact ih2 ((z2.1 + (1 : Int32)), v7_) ρ2 hz2 hK2 _ _ hP7 hD7 hS7 _ (lv_sub hl8 [2, 0] rfl)
  exact hL2 n2 ((0 : Int32), v) r2 hn2 hm _ _ hP0 hD0 hS0 _ (lv_sub hl1 [1, 0] rfl)
noncomputable def m_X4_number_K4 (z4 : Int32 × Int32) : Option (Int32) :=
  some z4.1
noncomputable def m_X4_number_L4 (v : SV) (u : SV) (z4 : Int32 × Int32) : Option ((Int32 × Int32) ⊕ (Int32 × Int32)) :=
  (if (u 0 0) ≤ z4.2 then some (.inr (z4.1, z4.2)) else ck (inB z4.2 6) (some (.inl (((z4.1 * (u 0 1)) + (v 8 ((z4.2).toNatClampNeg))), (z4.2 + (1 : Int32))))))
noncomputable def m_X4_number (v : SV) (u : SV) (w : SV) : Option (Int32) :=
  (lpC (m_X4_number_L4 v u) ((0 : Int32), (0 : Int32))).bind (m_X4_number_K4)
set_option maxHeartbeats 4000000 in
set_option maxRecDepth 100000 in
theorem c_X4_number (l : Launch) (D : va_G) (q : Nat → ClassId) (a : Nat → Nat) (v : SV) (b : Nat → Nat) (u : SV) (ea : Nat → Nat) (w : SV) (res : Int32) (hm : m_X4_number v u w = some res) : Met l yX4_number (mw yX4_number cX4_number 3 (some .int)) ({ frames := 0, cells := 0, slots := 0, locals := 0 } : Room) (pcR D q (wX4 q a v (b 99) (ea 99) ++ (wX3 q b u ++ wX1 q ea w)) [.ref (a 99)]) (vp_Si (fun x => x = res)) 0 0 (fun _ => False) := by
  refine Met.ofW (cc := cX4_number) (maxL := 3) (ret := (some .int)) (by decide) rfl ?_
  intro p e s m args below meth c s₁ B hml hv
  obtain ⟨rfl, hP0, hK⟩ := hv
  have hx := B.exec
  have hb := B.bytes
  have hr := B.returns
  have hW := mw_ws (atoms_spec (ws := mw yX4_number cX4_number 3 (some .int)) B.pre)
  have hown : s.vm.findClass RX4 = some m.cls := findClass_of_methodNamed B.named
  have hlocks := B.notSynchronized
  have X : Cx p s m [.ref (a 99)].toArray c cX4_number 3 RX4 D q := ⟨hx, hb, hml, hown, hW, hK⟩
  have hl0 := lv_entry ([.ref (a 99)]) (n := 3) (Nat.le_of_ble_eq_true rfl)
  rw [lg_entry_eq]
  generalize (lg_sl ([.ref (a 99)]) ++ List.replicate (3 - (lg_sl ([.ref (a 99)])).length) Slot.unset).toArray = ls0 at hl0 ⊢
  have hl0 : lv_has ls0 3 [(0, .ref (a 99))] := hl0
  unfold m_X4_number at hm
  refine lv_iconst (v := (0 : Int32)) hx hb dX4_number_0 (by decide) ?_
  refine lv_istore_n (lv' := [(1, .int (0 : Int32)), (0, .ref (a 99))]) hx hb dX4_number_1 rfl hl0 (by decide) rfl (fun ls1 hl1 => ?_)
  clear hl0
  refine lv_iconst (v := (0 : Int32)) hx hb dX4_number_2 (by decide) ?_
  refine lv_istore_n (lv' := [(2, .int (0 : Int32)), (1, .int (0 : Int32)), (0, .ref (a 99))]) hx hb dX4_number_3 rfl hl1 (by decide) rfl (fun ls2 hl2 => ?_)
  clear hl1
  obtain ⟨r4, hr4, hm⟩ := bn hm
  obtain ⟨n4, hn4⟩ := lpC_ex hr4
  have hE4 : ∀ z4 : Int32 × Int32, m_X4_number_K4 z4 = some res → ∀ ls : Array Slot, lv_has ls 3 [(1, .int z4.1)] → W p l e ((headSpec (mw yX4_number cX4_number 3 (some .int)) ({ frames := 0, cells := 0, slots := 0, locals := 0 } : Room)).room) s m [.ref (a 99)].toArray below meth c s.heap [] 0 0 (MQ below (vp_Si (fun x => x = res)) [.ref (a 99)].toArray s 0 0 (fun _ => False)) (F0 m 38 ls []) := by
    intro z4 hm ls4 hl4
    unfold m_X4_number_K4 at hm
    refine lv_iload_n hx hb dX4_number_38 rfl (lv_at hl4 0 rfl) ?_
    exact eRi  X hr hlocks hm dX4_number_39
  have hL4 : ∀ (n : Nat) (z4 : Int32 × Int32) (ρ4 : Int32 × Int32), lpO (m_X4_number_L4 v u) n z4 = some ρ4 → (m_X4_number_K4) ρ4 = some res → ∀ ls : Array Slot, lv_has ls 3 [(0, .ref (a 99)), (1, .int z4.1), (2, .int z4.2)] → W p l e ((headSpec (mw yX4_number cX4_number 3 (some .int)) ({ frames := 0, cells := 0, slots := 0, locals := 0 } : Room)).room) s m [.ref (a 99)].toArray below meth c s.heap [] 0 0 (MQ below (vp_Si (fun x => x = res)) [.ref (a 99)].toArray s 0 0 (fun _ => False)) (F0 m 4 ls []) := by
    intro n
    induction n with
    | zero => intro _ _ h; cases h
    | succ n ih4 =>
      intro z4 ρ4 hz4 hK4 ls3 hl3
      obtain ⟨t4, hm, hz4⟩ := bn hz4
      unfold m_X4_number_L4 at hm
      refine lv_iload_n hx hb dX4_number_4 rfl (lv_at hl3 2 rfl) ?_
      refine lv_aload_n hx hb dX4_number_5 rfl (lv_at hl3 0 rfl) ?_
      refine va_get (D := D) (ci := 4) (v := .ref (b 99)) (C := RX4) (T := TX4) (N := 12) hx hb hW iX4 hown hK hP0 0 rfl rfl 0 (by decide) (hW _ k_251) (fun _ h => h) rfl dX4_number_6 ?_
      refine va_get (D := D) (ci := 3) (v := .int (u 0 0)) (C := RX3) (T := TX3) (N := 17) hx hb hW iX3 hown hK hP0 6 rfl rfl 0 (by decide) (hW _ k_83) (fun _ h => h) rfl dX4_number_9 ?_
      refine lv_icmp_ge (tgt := 38) hx hb dX4_number_12 (by decide) (fun c12 => ?_) (fun c12 => ?_)
      · replace hm := tp hm c12
        cases hm
        cases hz4
        exact hE4 (z4.1, z4.2) hK4 _ (lv_sub hl3 [1] rfl)
      · replace hm := tn hm c12
        refine lv_iload_n hx hb dX4_number_15 rfl (lv_at hl3 1 rfl) ?_
        refine lv_aload_n hx hb dX4_number_16 rfl (lv_at hl3 0 rfl) ?_
        refine va_get (D := D) (ci := 4) (v := .ref (b 99)) (C := RX4) (T := TX4) (N := 12) hx hb hW iX4 hown hK hP0 0 rfl rfl 0 (by decide) (hW _ k_251) (fun _ h => h) rfl dX4_number_17 ?_
        refine va_get (D := D) (ci := 3) (v := .int (u 0 1)) (C := RX3) (T := TX3) (N := 17) hx hb hW iX3 hown hK hP0 6 rfl rfl 1 (by decide) (hW _ k_87) (fun _ h => h) rfl dX4_number_20 ?_
        refine lv_imul hx hb dX4_number_23 ?_
        refine lv_aload_n hx hb dX4_number_24 rfl (lv_at hl3 0 rfl) ?_
        refine va_get (D := D) (ci := 4) (v := .ref (a 8)) (C := RX4) (T := TX4) (N := 12) hx hb hW iX4 hown hK hP0 0 rfl rfl 8 (by decide) (hW _ k_260) (fun _ h => h) rfl dX4_number_25 ?_
        refine lv_iload_n hx hb dX4_number_28 rfl (lv_at hl3 2 rfl) ?_
        obtain ⟨h5, hm⟩ := ckd hm
        refine va_iald (f := (v 8)) hx hb hK hP0 2 0 rfl rfl (inB_vp h5) dX4_number_29 ?_
        refine lv_iadd hx hb dX4_number_30 ?_
        refine lv_istore_n (lv' := [(1, .int ((z4.1 * (u 0 1)) + (v 8 ((z4.2).toNatClampNeg)))), (0, .ref (a 99)), (2, .int z4.2)]) hx hb dX4_number_31 rfl hl3 (by decide) rfl (fun ls6 hl6 => ?_)
        clear hl3
        refine lv_iinc (v := (z4.2 + (1 : Int32))) (lv' := [(2, .int (z4.2 + (1 : Int32))), (1, .int ((z4.1 * (u 0 1)) + (v 8 ((z4.2).toNatClampNeg)))), (0, .ref (a 99))]) hx hb dX4_number_32 hl6 (k := 2) rfl rfl (by decide) rfl (fun ls7 hl7 => ?_)
        clear hl6
        refine lv_goto (tgt := 4) hx hb dX4_number_35 (by decide) ?_
        cases hm
        exact ih4 (((z4.1 * (u 0 1)) + (v 8 ((z4.2).toNatClampNeg))), (z4.2 + (1 : Int32))) ρ4 hz4 hK4 _ (lv_sub hl7 [2, 1, 0] rfl)
  exact hL4 n4 ((0 : Int32), (0 : Int32)) r4 hn4 hm _ (lv_sub hl2 [2, 1, 0] rfl)
noncomputable def m_X4_cheapest_K5 (x1 : Int32) (z5 : Int32 × Int32 × SV) : Option (Int32 × SV) :=
  (if z5.1 = (-4 : Int32) then some (z5.1, z5.2.2) else (if x1 = (1 : Int32) then some (z5.1, z5.2.2) else some ((z5.2.2 0 4), z5.2.2)))
noncomputable def m_X4_cheapest_L5 (u : SV) (w : SV) (z5 : Int32 × Int32 × SV) : Option ((Int32 × Int32 × SV) ⊕ (Int32 × Int32 × SV)) :=
  (if (1000000 : Int32) ≤ z5.2.1 then some (.inr (z5.1, z5.2.1, z5.2.2)) else (m_X4_advance z5.2.2 u w).bind (fun y12 => (if y12.1 = 0 then some (.inr (z5.1, z5.2.1, y12.2)) else ck (inB (u 0 0) 7) (lett (up2 y12.2 0 4 (y12.2 10 (((u 0 0)).toNatClampNeg))) (fun v9_ => (m_X4_number v9_ u w).bind (fun y35 => some (.inl (y35, (z5.2.1 + (1 : Int32)), v9_))))))))
noncomputable def m_X4_cheapest (v : SV) (u : SV) (w : SV) (x1 : Int32) : Option (Int32 × SV) :=
  (lpC (m_X4_cheapest_L5 u w) ((-4 : Int32), (0 : Int32), v)).bind (m_X4_cheapest_K5 x1)
set_option maxHeartbeats 4000000 in
set_option maxRecDepth 100000 in
theorem c_X4_cheapest (l : Launch) (D : va_G) (q : Nat → ClassId) (sz : Nat) (a : Nat → Nat) (v : SV) (b : Nat → Nat) (u : SV) (ea : Nat → Nat) (w : SV) (x1 : Int32) (res : Int32 × SV) (hm : m_X4_cheapest v u w x1 = some res) : Met l yX4_cheapest (mw yX4_cheapest cX4_cheapest 4 (some .int)) ({ frames := 4, cells := 0, slots := 0, locals := 88 } : Room) (pcW D q (wX4 q a v (b 99) (ea 99) ++ (wX3 q b u ++ wX1 q ea w)) sz [.ref (a 99), .int x1]) (va_Qi (fun r w => r = res.1 ∧ w = res.2) (bW D q (wX4 q a v (b 99) (ea 99) ++ (wX3 q b u ++ wX1 q ea w)) sz (fun (uu : SV) => wX4 q a uu (b 99) (ea 99) ++ (wX3 q b u ++ wX1 q ea w))) (va_A (wX4 q a v (b 99) (ea 99) ++ (wX3 q b u ++ wX1 q ea w)) sz)) 0 0 (va_A (wX4 q a v (b 99) (ea 99) ++ (wX3 q b u ++ wX1 q ea w)) sz) := by
  refine Met.ofW (cc := cX4_cheapest) (maxL := 4) (ret := (some .int)) (by decide) rfl ?_
  intro p e s m args below meth c s₁ B hml hv
  obtain ⟨rfl, hsz, hP0, hK, hD0⟩ := hv
  have hx := B.exec
  have hb := B.bytes
  have hr := B.returns
  have hW := mw_ws (atoms_spec (ws := mw yX4_cheapest cX4_cheapest 4 (some .int)) B.pre)
  have hown : s.vm.findClass RX4 = some m.cls := findClass_of_methodNamed B.named
  have hlocks := B.notSynchronized
  have X : Cx p s m [.ref (a 99), .int x1].toArray c cX4_cheapest 4 RX4 D q := ⟨hx, hb, hml, hown, hW, hK⟩
  subst hsz
  replace hD0 := hD0.self (sz := s.heap.size)
  have hS0 : va_S (va_A (wX4 q a v (b 99) (ea 99) ++ (wX3 q b u ++ wX1 q ea w)) s.heap.size) s.heap s.heap [] := va_S.rf
  have hl0 := lv_entry ([.ref (a 99), .int x1]) (n := 4) (Nat.le_of_ble_eq_true rfl)
  rw [lg_entry_eq]
  generalize (lg_sl ([.ref (a 99), .int x1]) ++ List.replicate (4 - (lg_sl ([.ref (a 99), .int x1])).length) Slot.unset).toArray = ls0 at hl0 ⊢
  have hl0 : lv_has ls0 4 [(0, .ref (a 99)), (1, .int x1)] := hl0
  unfold m_X4_cheapest at hm
  refine lv_bipush (v := (-4 : Int32)) hx hb dX4_cheapest_0 (by decide) ?_
  refine lv_istore_n (lv' := [(2, .int (-4 : Int32)), (0, .ref (a 99)), (1, .int x1)]) hx hb dX4_cheapest_2 rfl hl0 (by decide) rfl (fun ls1 hl1 => ?_)
  clear hl0
  refine lv_iconst (v := (0 : Int32)) hx hb dX4_cheapest_3 (by decide) ?_
  refine lv_istore_n (lv' := [(3, .int (0 : Int32)), (2, .int (-4 : Int32)), (0, .ref (a 99)), (1, .int x1)]) hx hb dX4_cheapest_4 rfl hl1 (by decide) rfl (fun ls2 hl2 => ?_)
  clear hl1
  obtain ⟨r5, hr5, hm⟩ := bn hm
  obtain ⟨n5, hn5⟩ := lpC_ex hr5
  have hE5 : ∀ z5 : Int32 × Int32 × SV, m_X4_cheapest_K5 x1 z5 = some res → ∀ (H : Heap) (locs : List Loc), va_P D cls (wX4 q a z5.2.2 (b 99) (ea 99) ++ (wX3 q b u ++ wX1 q ea w)) H → va_D (va_A (wX4 q a v (b 99) (ea 99) ++ (wX3 q b u ++ wX1 q ea w)) s.heap.size) (wX4 q a z5.2.2 (b 99) (ea 99) ++ (wX3 q b u ++ wX1 q ea w)) → va_S (va_A (wX4 q a v (b 99) (ea 99) ++ (wX3 q b u ++ wX1 q ea w)) s.heap.size) s.heap H locs → ∀ ls : Array Slot, lv_has ls 4 [(0, .ref (a 99)), (1, .int x1), (2, .int z5.1)] → W p l e ((headSpec (mw yX4_cheapest cX4_cheapest 4 (some .int)) ({ frames := 4, cells := 0, slots := 0, locals := 88 } : Room)).room) s m [.ref (a 99), .int x1].toArray below meth c H locs 0 0 (MQ below (va_Qi (fun r w => r = res.1 ∧ w = res.2) (bW D q (wX4 q a v (b 99) (ea 99) ++ (wX3 q b u ++ wX1 q ea w)) s.heap.size (fun (uu : SV) => wX4 q a uu (b 99) (ea 99) ++ (wX3 q b u ++ wX1 q ea w))) (va_A (wX4 q a v (b 99) (ea 99) ++ (wX3 q b u ++ wX1 q ea w)) s.heap.size)) [.ref (a 99), .int x1].toArray s 0 0 (va_A (wX4 q a v (b 99) (ea 99) ++ (wX3 q b u ++ wX1 q ea w)) s.heap.size)) (F0 m 45 ls []) := by
    intro z5 hm H6 locs6 hP6 hD6 hS6 ls5 hl5
    unfold m_X4_cheapest_K5 at hm
    refine lv_iload_n hx hb dX4_cheapest_45 rfl (lv_at hl5 2 rfl) ?_
    refine lv_bipush (v := (-4 : Int32)) hx hb dX4_cheapest_46 (by decide) ?_
    refine lv_icmp_eq (tgt := 56) hx hb dX4_cheapest_48 (by decide) (fun c48 => ?_) (fun c48 => ?_)
    · replace hm := tp hm c48
      refine lv_iload_n hx hb dX4_cheapest_56 rfl (lv_at hl5 2 rfl) ?_
      refine lv_goto (tgt := 64) hx hb dX4_cheapest_57 (by decide) ?_
      exact eWi (Wf := fun (uu : SV) => wX4 q a uu (b 99) (ea 99) ++ (wX3 q b u ++ wX1 q ea w)) (u := z5.2.2) X hr hlocks hP6 hD6 hS6 hm dX4_cheapest_64
    · replace hm := tn hm c48
      refine lv_iload_n hx hb dX4_cheapest_51 rfl (lv_at hl5 1 rfl) ?_
      refine lv_iconst (v := (1 : Int32)) hx hb dX4_cheapest_52 (by decide) ?_
      refine lv_icmp_ne (tgt := 60) hx hb dX4_cheapest_53 (by decide) (fun c53 => ?_) (fun c53 => ?_)
      · replace hm := tn hm c53
        refine lv_aload_n hx hb dX4_cheapest_60 rfl (lv_at hl5 0 rfl) ?_
        refine va_get (D := D) (ci := 4) (v := .int (z5.2.2 0 4)) (C := RX4) (T := TX4) (N := 12) hx hb hW iX4 hown hK hP6 0 rfl rfl 4 (by decide) (hW _ k_256) (fun _ h => h) rfl dX4_cheapest_61 ?_
        exact eWi (Wf := fun (uu : SV) => wX4 q a uu (b 99) (ea 99) ++ (wX3 q b u ++ wX1 q ea w)) (u := z5.2.2) X hr hlocks hP6 hD6 hS6 hm dX4_cheapest_64
      · replace hm := tp hm c53
        refine lv_iload_n hx hb dX4_cheapest_56 rfl (lv_at hl5 2 rfl) ?_
        refine lv_goto (tgt := 64) hx hb dX4_cheapest_57 (by decide) ?_
        exact eWi (Wf := fun (uu : SV) => wX4 q a uu (b 99) (ea 99) ++ (wX3 q b u ++ wX1 q ea w)) (u := z5.2.2) X hr hlocks hP6 hD6 hS6 hm dX4_cheapest_64
  have hL5 : ∀ (n : Nat) (z5 : Int32 × Int32 × SV) (ρ5 : Int32 × Int32 × SV), lpO (m_X4_cheapest_L5 u w) n z5 = some ρ5 → (m_X4_cheapest_K5 x1) ρ5 = some res → ∀ (H : Heap) (locs : List Loc), va_P D cls (wX4 q a z5.2.2 (b 99) (ea 99) ++ (wX3 q b u ++ wX1 q ea w)) H → va_D (va_A (wX4 q a v (b 99) (ea 99) ++ (wX3 q b u ++ wX1 q ea w)) s.heap.size) (wX4 q a z5.2.2 (b 99) (ea 99) ++ (wX3 q b u ++ wX1 q ea w)) → va_S (va_A (wX4 q a v (b 99) (ea 99) ++ (wX3 q b u ++ wX1 q ea w)) s.heap.size) s.heap H locs → ∀ ls : Array Slot, lv_has ls 4 [(0, .ref (a 99)), (1, .int x1), (2, .int z5.1), (3, .int z5.2.1)] → W p l e ((headSpec (mw yX4_cheapest cX4_cheapest 4 (some .int)) ({ frames := 4, cells := 0, slots := 0, locals := 88 } : Room)).room) s m [.ref (a 99), .int x1].toArray below meth c H locs 0 0 (MQ below (va_Qi (fun r w => r = res.1 ∧ w = res.2) (bW D q (wX4 q a v (b 99) (ea 99) ++ (wX3 q b u ++ wX1 q ea w)) s.heap.size (fun (uu : SV) => wX4 q a uu (b 99) (ea 99) ++ (wX3 q b u ++ wX1 q ea w))) (va_A (wX4 q a v (b 99) (ea 99) ++ (wX3 q b u ++ wX1 q ea w)) s.heap.size)) [.ref (a 99), .int x1].toArray s 0 0 (va_A (wX4 q a v (b 99) (ea 99) ++ (wX3 q b u ++ wX1 q ea w)) s.heap.size)) (F0 m 5 ls []) := by
    intro n
    induction n with
    | zero => intro _ _ h; cases h
    | succ n ih5 =>
      intro z5 ρ5 hz5 hK5 H4 locs4 hP4 hD4 hS4 ls3 hl3
      obtain ⟨t5, hm, hz5⟩ := bn hz5
      unfold m_X4_cheapest_L5 at hm
      refine lv_iload_n hx hb dX4_cheapest_5 rfl (lv_at hl3 3 rfl) ?_
      refine lv_ldc (v := (1000000 : Int32)) hx hb hown (hW _ k_670) dX4_cheapest_6 ?_
      refine lv_icmp_ge (tgt := 45) hx hb dX4_cheapest_8 (by decide) (fun c8 => ?_) (fun c8 => ?_)
      · replace hm := tp hm c8
        cases hm
        cases hz5
        exact hE5 (z5.1, z5.2.1, z5.2.2) hK5 _ _ hP4 hD4 hS4 _ (lv_sub hl3 [0, 1, 2] rfl)
      · replace hm := tn hm c8
        refine lv_aload_n hx hb dX4_cheapest_11 rfl (lv_at hl3 0 rfl) ?_
        obtain ⟨y12, hy12, hm⟩ := bn hm
        refine cVWi (As := []) (rest := []) (Wn := fun (uu : SV) => wX4 q a uu (b 99) (ea 99) ++ (wX3 q b u ++ wX1 q ea w)) X hP4 hD4 hS4 (fun _ h => Or.inr h) hl3.1 (c_X4_advance l D q H4.size a z5.2.2 b u ea w y12 hy12) [0, 1, 2, 3, 4, 5, 6, 7, 8, 9, 10, 11, 12, 13, 14, 15, 16, 17, 18, 19, 20, 21] [] [0, 1, 2, 3, 4, 5, 6, 7, 8, 9, 10, 11, 12, 13, 14, 15, 16, 17, 18, 19, 20, 21] rfl (Wr := []) rfl (by decide) (by decide) (by decide) (by decide) (fun _ => rfl) 0 rfl rfl rfl k_671 mX4_advance ⟨rfl, rfl⟩ ⟨Nat.le_of_ble_eq_true rfl, Nat.le_of_ble_eq_true rfl⟩ rfl rfl (Nat.le_of_ble_eq_true rfl) dX4_cheapest_12 ⟨Nat.zero_le _, Nat.zero_le _⟩ (fun H7 locs7 hP hD hS7 => ?_)
        have hP7 : va_P D cls (wX4 q a y12.2 (b 99) (ea 99) ++ (wX3 q b u ++ wX1 q ea w)) H7 := hP
        have hD7 : va_D (va_A (wX4 q a v (b 99) (ea 99) ++ (wX3 q b u ++ wX1 q ea w)) s.heap.size) (wX4 q a y12.2 (b 99) (ea 99) ++ (wX3 q b u ++ wX1 q ea w)) := hD
        clear hP hD hP4 hD4 hS4
        refine lv_if_eq (tgt := 45) hx hb dX4_cheapest_15 (by decide) (fun c15 => ?_) (fun c15 => ?_)
        · replace hm := tp hm c15
          cases hm
          cases hz5
          exact hE5 (z5.1, z5.2.1, y12.2) hK5 _ _ hP7 hD7 hS7 _ (lv_sub hl3 [0, 1, 2] rfl)
        · replace hm := tn hm c15
          refine lv_aload_n hx hb dX4_cheapest_18 rfl (lv_at hl3 0 rfl) ?_
          refine lv_aload_n hx hb dX4_cheapest_19 rfl (lv_at hl3 0 rfl) ?_
          refine va_get (D := D) (ci := 4) (v := .ref (a 10)) (C := RX4) (T := TX4) (N := 12) hx hb hW iX4 hown hK hP7 0 rfl rfl 10 (by decide) (hW _ k_262) (fun _ h => h) rfl dX4_cheapest_20 ?_
          refine lv_aload_n hx hb dX4_cheapest_23 rfl (lv_at hl3 0 rfl) ?_
          refine va_get (D := D) (ci := 4) (v := .ref (b 99)) (C := RX4) (T := TX4) (N := 12) hx hb hW iX4 hown hK hP7 0 rfl rfl 0 (by decide) (hW _ k_251) (fun _ h => h) rfl dX4_cheapest_24 ?_
          refine va_get (D := D) (ci := 3) (v := .int (u 0 0)) (C := RX3) (T := TX3) (N := 17) hx hb hW iX3 hown hK hP7 6 rfl rfl 0 (by decide) (hW _ k_83) (fun _ h => h) rfl dX4_cheapest_27 ?_
          obtain ⟨h8, hm⟩ := ckd hm
          refine va_iald (f := (y12.2 10)) hx hb hK hP7 4 0 rfl rfl (inB_vp h8) dX4_cheapest_30 ?_
          refine va_put (D := D) (ci := 4) (v := .int (y12.2 10 (((u 0 0)).toNatClampNeg))) (ty := .int) (C := RX4) (T := TX4) (N := 12) hx hb hW iX4 tyX4 tyX4_ok nmX4 hown hK hP7 hD7 hS7 0 rfl rfl 4 (by decide) (hW _ k_256) (fun _ h => h) rfl (by decide +kernel) rfl rfl (Nat.le_of_ble_eq_true rfl) dX4_cheapest_31 (fun H9 locs9 hP hD hS9 => ?_)
          obtain ⟨v9_, e9, hm⟩ := ltd hm
          have hP9 : va_P D cls (wX4 q a v9_ (b 99) (ea 99) ++ (wX3 q b u ++ wX1 q ea w)) H9 := by rw [e9]; exact hP
          have hD9 : va_D (va_A (wX4 q a v (b 99) (ea 99) ++ (wX3 q b u ++ wX1 q ea w)) s.heap.size) (wX4 q a v9_ (b 99) (ea 99) ++ (wX3 q b u ++ wX1 q ea w)) := by rw [e9]; exact hD
          clear hP hD hP7 hD7 hS7
          refine lv_aload_n hx hb dX4_cheapest_34 rfl (lv_at hl3 0 rfl) ?_
          obtain ⟨y35, hy35, hm⟩ := bn hm
          refine cVRi (As := []) (rest := []) X hP9 hl3.1 (c_X4_number l D q a v9_ b u ea w y35 hy35) [0, 1, 2, 3, 4, 5, 6, 7, 8, 9, 10, 11, 12, 13, 14, 15, 16, 17, 18, 19, 20, 21] rfl 0 rfl rfl rfl k_702 mX4_number ⟨rfl, rfl⟩ ⟨Nat.le_of_ble_eq_true rfl, Nat.le_of_ble_eq_true rfl⟩ rfl rfl (Nat.le_of_ble_eq_true rfl) dX4_cheapest_35 ⟨Nat.zero_le _, Nat.zero_le _⟩ ?_
          refine lv_istore_n (lv' := [(2, .int y35), (0, .ref (a 99)), (1, .int x1), (3, .int z5.2.1)]) hx hb dX4_cheapest_38 rfl hl3 (by decide) rfl (fun ls10 hl10 => ?_)
          clear hl3
          refine lv_iinc (v := (z5.2.1 + (1 : Int32))) (lv' := [(3, .int (z5.2.1 + (1 : Int32))), (2, .int y35), (0, .ref (a 99)), (1, .int x1)]) hx hb dX4_cheapest_39 hl10 (k := 3) rfl rfl (by decide) rfl (fun ls11 hl11 => ?_)
          clear hl10
          refine lv_goto (tgt := 5) hx hb dX4_cheapest_42 (by decide) ?_
          cases hm
          exact ih5 (y35, (z5.2.1 + (1 : Int32)), v9_) ρ5 hz5 hK5 _ _ hP9 hD9 hS9 _ (lv_sub hl11 [2, 3, 1, 0] rfl)
  exact hL5 n5 ((-4 : Int32), (0 : Int32), v) r5 hn5 hm _ _ hP0 hD0 hS0 _ (lv_sub hl2 [2, 3, 1, 0] rfl)
noncomputable def m_X4_howMany_K17 (z17 : Int32 × Int32 × SV) : Option (Int32 × SV) :=
  some (z17.1, z17.2.2)
noncomputable def m_X4_howMany_L17 (u : SV) (w : SV) (z17 : Int32 × Int32 × SV) : Option ((Int32 × Int32 × SV) ⊕ (Int32 × Int32 × SV)) :=
  (if (1000000 : Int32) ≤ z17.2.1 then some (.inr (z17.1, z17.2.1, z17.2.2)) else (m_X4_advance z17.2.2 u w).bind (fun y24 => (if y24.1 = 0 then some (.inr (z17.1, z17.2.1, y24.2)) else (m_X4_allowedAt y24.2 u w (y24.2 0 6)).bind (fun y36 => (m_J6_bitCount_0f7a4 y36).bind (fun y39 => some (.inl ((z17.1 + y39), (z17.2.1 + (1 : Int32)), y24.2)))))))
noncomputable def m_X4_howMany (v : SV) (u : SV) (w : SV) : Option (Int32 × SV) :=
  lett (up2 v 0 6 ((u 0 0) - (1 : Int32))) (fun v1_ => (lpC (m_X4_howMany_L17 u w) ((0 : Int32), (0 : Int32), v1_)).bind (m_X4_howMany_K17))
set_option maxHeartbeats 4000000 in
set_option maxRecDepth 100000 in
theorem c_X4_howMany (l : Launch) (D : va_G) (q : Nat → ClassId) (sz : Nat) (a : Nat → Nat) (v : SV) (b : Nat → Nat) (u : SV) (ea : Nat → Nat) (w : SV) (res : Int32 × SV) (hm : m_X4_howMany v u w = some res) : Met l yX4_howMany (mw yX4_howMany cX4_howMany 3 (some .int)) ({ frames := 4, cells := 0, slots := 0, locals := 88 } : Room) (pcW D q (wX4 q a v (b 99) (ea 99) ++ (wX3 q b u ++ wX1 q ea w)) sz [.ref (a 99)]) (va_Qi (fun r w => r = res.1 ∧ w = res.2) (bW D q (wX4 q a v (b 99) (ea 99) ++ (wX3 q b u ++ wX1 q ea w)) sz (fun (uu : SV) => wX4 q a uu (b 99) (ea 99) ++ (wX3 q b u ++ wX1 q ea w))) (va_A (wX4 q a v (b 99) (ea 99) ++ (wX3 q b u ++ wX1 q ea w)) sz)) 0 0 (va_A (wX4 q a v (b 99) (ea 99) ++ (wX3 q b u ++ wX1 q ea w)) sz) := by
  refine Met.ofW (cc := cX4_howMany) (maxL := 3) (ret := (some .int)) (by decide) rfl ?_
  intro p e s m args below meth c s₁ B hml hv
  obtain ⟨rfl, hsz, hP0, hK, hD0⟩ := hv
  have hx := B.exec
  have hb := B.bytes
  have hr := B.returns
  have hW := mw_ws (atoms_spec (ws := mw yX4_howMany cX4_howMany 3 (some .int)) B.pre)
  have hown : s.vm.findClass RX4 = some m.cls := findClass_of_methodNamed B.named
  have hlocks := B.notSynchronized
  have X : Cx p s m [.ref (a 99)].toArray c cX4_howMany 3 RX4 D q := ⟨hx, hb, hml, hown, hW, hK⟩
  subst hsz
  replace hD0 := hD0.self (sz := s.heap.size)
  have hS0 : va_S (va_A (wX4 q a v (b 99) (ea 99) ++ (wX3 q b u ++ wX1 q ea w)) s.heap.size) s.heap s.heap [] := va_S.rf
  have hl0 := lv_entry ([.ref (a 99)]) (n := 3) (Nat.le_of_ble_eq_true rfl)
  rw [lg_entry_eq]
  generalize (lg_sl ([.ref (a 99)]) ++ List.replicate (3 - (lg_sl ([.ref (a 99)])).length) Slot.unset).toArray = ls0 at hl0 ⊢
  have hl0 : lv_has ls0 3 [(0, .ref (a 99))] := hl0
  unfold m_X4_howMany at hm
  refine lv_aload_n hx hb dX4_howMany_0 rfl (lv_at hl0 0 rfl) ?_
  refine lv_aload_n hx hb dX4_howMany_1 rfl (lv_at hl0 0 rfl) ?_
  refine va_get (D := D) (ci := 4) (v := .ref (b 99)) (C := RX4) (T := TX4) (N := 12) hx hb hW iX4 hown hK hP0 0 rfl rfl 0 (by decide) (hW _ k_251) (fun _ h => h) rfl dX4_howMany_2 ?_
  refine va_get (D := D) (ci := 3) (v := .int (u 0 0)) (C := RX3) (T := TX3) (N := 17) hx hb hW iX3 hown hK hP0 6 rfl rfl 0 (by decide) (hW _ k_83) (fun _ h => h) rfl dX4_howMany_5 ?_
  refine lv_iconst (v := (1 : Int32)) hx hb dX4_howMany_8 (by decide) ?_
  refine lv_isub hx hb dX4_howMany_9 ?_
  refine va_put (D := D) (ci := 4) (v := .int ((u 0 0) - (1 : Int32))) (ty := .int) (C := RX4) (T := TX4) (N := 12) hx hb hW iX4 tyX4 tyX4_ok nmX4 hown hK hP0 hD0 hS0 0 rfl rfl 6 (by decide) (hW _ k_258) (fun _ h => h) rfl (by decide +kernel) rfl rfl (Nat.le_of_ble_eq_true rfl) dX4_howMany_10 (fun H1 locs1 hP hD hS1 => ?_)
  obtain ⟨v1_, e1, hm⟩ := ltd hm
  have hP1 : va_P D cls (wX4 q a v1_ (b 99) (ea 99) ++ (wX3 q b u ++ wX1 q ea w)) H1 := by rw [e1]; exact hP
  have hD1 : va_D (va_A (wX4 q a v (b 99) (ea 99) ++ (wX3 q b u ++ wX1 q ea w)) s.heap.size) (wX4 q a v1_ (b 99) (ea 99) ++ (wX3 q b u ++ wX1 q ea w)) := by rw [e1]; exact hD
  clear hP hD hP0 hD0 hS0
  refine lv_iconst (v := (0 : Int32)) hx hb dX4_howMany_13 (by decide) ?_
  refine lv_istore_n (lv' := [(1, .int (0 : Int32)), (0, .ref (a 99))]) hx hb dX4_howMany_14 rfl hl0 (by decide) rfl (fun ls2 hl2 => ?_)
  clear hl0
  refine lv_iconst (v := (0 : Int32)) hx hb dX4_howMany_15 (by decide) ?_
  refine lv_istore_n (lv' := [(2, .int (0 : Int32)), (1, .int (0 : Int32)), (0, .ref (a 99))]) hx hb dX4_howMany_16 rfl hl2 (by decide) rfl (fun ls3 hl3 => ?_)
  clear hl2
  obtain ⟨r17, hr17, hm⟩ := bn hm
  obtain ⟨n17, hn17⟩ := lpC_ex hr17
  have hE17 : ∀ z17 : Int32 × Int32 × SV, m_X4_howMany_K17 z17 = some res → ∀ (H : Heap) (locs : List Loc), va_P D cls (wX4 q a z17.2.2 (b 99) (ea 99) ++ (wX3 q b u ++ wX1 q ea w)) H → va_D (va_A (wX4 q a v (b 99) (ea 99) ++ (wX3 q b u ++ wX1 q ea w)) s.heap.size) (wX4 q a z17.2.2 (b 99) (ea 99) ++ (wX3 q b u ++ wX1 q ea w)) → va_S (va_A (wX4 q a v (b 99) (ea 99) ++ (wX3 q b u ++ wX1 q ea w)) s.heap.size) s.heap H locs → ∀ ls : Array Slot, lv_has ls 3 [(1, .int z17.1)] → W p l e ((headSpec (mw yX4_howMany cX4_howMany 3 (some .int)) ({ frames := 4, cells := 0, slots := 0, locals := 88 } : Room)).room) s m [.ref (a 99)].toArray below meth c H locs 0 0 (MQ below (va_Qi (fun r w => r = res.1 ∧ w = res.2) (bW D q (wX4 q a v (b 99) (ea 99) ++ (wX3 q b u ++ wX1 q ea w)) s.heap.size (fun (uu : SV) => wX4 q a uu (b 99) (ea 99) ++ (wX3 q b u ++ wX1 q ea w))) (va_A (wX4 q a v (b 99) (ea 99) ++ (wX3 q b u ++ wX1 q ea w)) s.heap.size)) [.ref (a 99)].toArray s 0 0 (va_A (wX4 q a v (b 99) (ea 99) ++ (wX3 q b u ++ wX1 q ea w)) s.heap.size)) (F0 m 50 ls []) := by
    intro z17 hm H7 locs7 hP7 hD7 hS7 ls6 hl6
    unfold m_X4_howMany_K17 at hm
    refine lv_iload_n hx hb dX4_howMany_50 rfl (lv_at hl6 0 rfl) ?_
    exact eWi (Wf := fun (uu : SV) => wX4 q a uu (b 99) (ea 99) ++ (wX3 q b u ++ wX1 q ea w)) (u := z17.2.2) X hr hlocks hP7 hD7 hS7 hm dX4_howMany_51
  have hL17 : ∀ (n : Nat) (z17 : Int32 × Int32 × SV) (ρ17 : Int32 × Int32 × SV), lpO (m_X4_howMany_L17 u w) n z17 = some ρ17 → (m_X4_howMany_K17) ρ17 = some res → ∀ (H : Heap) (locs : List Loc), va_P D cls (wX4 q a z17.2.2 (b 99) (ea 99) ++ (wX3 q b u ++ wX1 q ea w)) H → va_D (va_A (wX4 q a v (b 99) (ea 99) ++ (wX3 q b u ++ wX1 q ea w)) s.heap.size) (wX4 q a z17.2.2 (b 99) (ea 99) ++ (wX3 q b u ++ wX1 q ea w)) → va_S (va_A (wX4 q a v (b 99) (ea 99) ++ (wX3 q b u ++ wX1 q ea w)) s.heap.size) s.heap H locs → ∀ ls : Array Slot, lv_has ls 3 [(0, .ref (a 99)), (1, .int z17.1), (2, .int z17.2.1)] → W p l e ((headSpec (mw yX4_howMany cX4_howMany 3 (some .int)) ({ frames := 4, cells := 0, slots := 0, locals := 88 } : Room)).room) s m [.ref (a 99)].toArray below meth c H locs 0 0 (MQ below (va_Qi (fun r w => r = res.1 ∧ w = res.2) (bW D q (wX4 q a v (b 99) (ea 99) ++ (wX3 q b u ++ wX1 q ea w)) s.heap.size (fun (uu : SV) => wX4 q a uu (b 99) (ea 99) ++ (wX3 q b u ++ wX1 q ea w))) (va_A (wX4 q a v (b 99) (ea 99) ++ (wX3 q b u ++ wX1 q ea w)) s.heap.size)) [.ref (a 99)].toArray s 0 0 (va_A (wX4 q a v (b 99) (ea 99) ++ (wX3 q b u ++ wX1 q ea w)) s.heap.size)) (F0 m 17 ls []) := by
    intro n
    induction n with
    | zero => intro _ _ h; cases h
    | succ n ih17 =>
      intro z17 ρ17 hz17 hK17 H5 locs5 hP5 hD5 hS5 ls4 hl4
      obtain ⟨t17, hm, hz17⟩ := bn hz17
      unfold m_X4_howMany_L17 at hm
      refine lv_iload_n hx hb dX4_howMany_17 rfl (lv_at hl4 2 rfl) ?_
      refine lv_ldc (v := (1000000 : Int32)) hx hb hown (hW _ k_670) dX4_howMany_18 ?_
      refine lv_icmp_ge (tgt := 50) hx hb dX4_howMany_20 (by decide) (fun c20 => ?_) (fun c20 => ?_)
      · replace hm := tp hm c20
        cases hm
        cases hz17
        exact hE17 (z17.1, z17.2.1, z17.2.2) hK17 _ _ hP5 hD5 hS5 _ (lv_sub hl4 [1] rfl)
      · replace hm := tn hm c20
        refine lv_aload_n hx hb dX4_howMany_23 rfl (lv_at hl4 0 rfl) ?_
        obtain ⟨y24, hy24, hm⟩ := bn hm
        refine cVWi (As := []) (rest := []) (Wn := fun (uu : SV) => wX4 q a uu (b 99) (ea 99) ++ (wX3 q b u ++ wX1 q ea w)) X hP5 hD5 hS5 (fun _ h => Or.inr h) hl4.1 (c_X4_advance l D q H5.size a z17.2.2 b u ea w y24 hy24) [0, 1, 2, 3, 4, 5, 6, 7, 8, 9, 10, 11, 12, 13, 14, 15, 16, 17, 18, 19, 20, 21] [] [0, 1, 2, 3, 4, 5, 6, 7, 8, 9, 10, 11, 12, 13, 14, 15, 16, 17, 18, 19, 20, 21] rfl (Wr := []) rfl (by decide) (by decide) (by decide) (by decide) (fun _ => rfl) 0 rfl rfl rfl k_671 mX4_advance ⟨rfl, rfl⟩ ⟨Nat.le_of_ble_eq_true rfl, Nat.le_of_ble_eq_true rfl⟩ rfl rfl (Nat.le_of_ble_eq_true rfl) dX4_howMany_24 ⟨Nat.zero_le _, Nat.zero_le _⟩ (fun H8 locs8 hP hD hS8 => ?_)
        have hP8 : va_P D cls (wX4 q a y24.2 (b 99) (ea 99) ++ (wX3 q b u ++ wX1 q ea w)) H8 := hP
        have hD8 : va_D (va_A (wX4 q a v (b 99) (ea 99) ++ (wX3 q b u ++ wX1 q ea w)) s.heap.size) (wX4 q a y24.2 (b 99) (ea 99) ++ (wX3 q b u ++ wX1 q ea w)) := hD
        clear hP hD hP5 hD5 hS5
        refine lv_if_eq (tgt := 50) hx hb dX4_howMany_27 (by decide) (fun c27 => ?_) (fun c27 => ?_)
        · replace hm := tp hm c27
          cases hm
          cases hz17
          exact hE17 (z17.1, z17.2.1, y24.2) hK17 _ _ hP8 hD8 hS8 _ (lv_sub hl4 [1] rfl)
        · replace hm := tn hm c27
          refine lv_iload_n hx hb dX4_howMany_30 rfl (lv_at hl4 1 rfl) ?_
          refine lv_aload_n hx hb dX4_howMany_31 rfl (lv_at hl4 0 rfl) ?_
          refine lv_aload_n hx hb dX4_howMany_32 rfl (lv_at hl4 0 rfl) ?_
          refine va_get (D := D) (ci := 4) (v := .int (y24.2 0 6)) (C := RX4) (T := TX4) (N := 12) hx hb hW iX4 hown hK hP8 0 rfl rfl 6 (by decide) (hW _ k_258) (fun _ h => h) rfl dX4_howMany_33 ?_
          obtain ⟨y36, hy36, hm⟩ := bn hm
          refine cVRi (As := [.int (y24.2 0 6)]) (rest := [.int z17.1]) X hP8 hl4.1 (c_X4_allowedAt l D q a y24.2 b u ea w (y24.2 0 6) y36 hy36) [0, 1, 2, 3, 4, 5, 6, 7, 8, 9, 10, 11, 12, 13, 14, 15, 16, 17, 18, 19, 20, 21] rfl 0 rfl rfl rfl k_656 mX4_allowedAt ⟨rfl, rfl⟩ ⟨Nat.le_of_ble_eq_true rfl, Nat.le_of_ble_eq_true rfl⟩ rfl rfl (Nat.le_of_ble_eq_true rfl) dX4_howMany_36 ⟨Nat.zero_le _, Nat.zero_le _⟩ ?_
          obtain ⟨y39, hy39, hm⟩ := bn hm
          refine cSRi (As := [.int y36]) (rest := [.int z17.1]) X hP8 hl4.1 (c_J6_bitCount_0f7a4 l D q y36 y39 hy39) [] rfl k_683 mJ6_bitCount_0f7a4 ⟨rfl, rfl⟩ ⟨Nat.le_of_ble_eq_true rfl, Nat.le_of_ble_eq_true rfl⟩ rfl rfl (Nat.le_of_ble_eq_true rfl) dX4_howMany_39 ⟨Nat.zero_le _, Nat.zero_le _⟩ ?_
          refine lv_iadd hx hb dX4_howMany_42 ?_
          refine lv_istore_n (lv' := [(1, .int (z17.1 + y39)), (0, .ref (a 99)), (2, .int z17.2.1)]) hx hb dX4_howMany_43 rfl hl4 (by decide) rfl (fun ls9 hl9 => ?_)
          clear hl4
          refine lv_iinc (v := (z17.2.1 + (1 : Int32))) (lv' := [(2, .int (z17.2.1 + (1 : Int32))), (1, .int (z17.1 + y39)), (0, .ref (a 99))]) hx hb dX4_howMany_44 hl9 (k := 2) rfl rfl (by decide) rfl (fun ls10 hl10 => ?_)
          clear hl9
          refine lv_goto (tgt := 17) hx hb dX4_howMany_47 (by decide) ?_
          cases hm
          exact ih17 ((z17.1 + y39), (z17.2.1 + (1 : Int32)), y24.2) ρ17 hz17 hK17 _ _ hP8 hD8 hS8 _ (lv_sub hl10 [2, 1, 0] rfl)
  exact hL17 n17 ((0 : Int32), (0 : Int32), v1_) r17 hn17 hm _ _ hP1 hD1 hS1 _ (lv_sub hl3 [2, 1, 0] rfl)
noncomputable def m_X4_markSame_K8 (z8 : Int32 × (Nat → Int32)) : Option ((Nat → Int32)) :=
  some z8.2
noncomputable def m_X4_markSame_K23 (v : SV) (n1 : Nat) (x2 : Int32) (z8 : Int32 × (Nat → Int32)) (z23 : Int32 × (Nat → Int32)) : Option ((Int32 × (Nat → Int32)) ⊕ (Int32 × (Nat → Int32))) :=
  ck (inB ((z8.1 * (6 : Int32)) + (v 0 6)) n1) (ck (inB z8.1 6) (ck (inB ((z8.1 * (6 : Int32)) + (v 0 6)) n1) (lett (upd z23.2 ((((z8.1 * (6 : Int32)) + (v 0 6))).toNatClampNeg) ((z23.2 ((((z8.1 * (6 : Int32)) + (v 0 6))).toNatClampNeg)) + ((x2 >>> ((v 8 ((z8.1).toNatClampNeg)) &&& 31)) &&& (1 : Int32)))) (fun v15_ => some (.inl ((z8.1 + (1 : Int32)), v15_))))))
noncomputable def m_X4_markSame_L23 (v : SV) (n1 : Nat) (y1 : Int32) (z8 : Int32 × (Nat → Int32)) (z23 : Int32 × (Nat → Int32)) : Option ((Int32 × (Nat → Int32)) ⊕ (Int32 × (Nat → Int32))) :=
  (if (v 0 6) ≤ z23.1 then some (.inr (z23.1, z23.2)) else ck (inB z8.1 6) (ck (inB z23.1 6) ((if (v 8 ((z8.1).toNatClampNeg)) = (v 8 ((z23.1).toNatClampNeg)) then ck (inB ((z8.1 * (6 : Int32)) + z23.1) n1) (ck (inB ((z8.1 * (6 : Int32)) + z23.1) n1) (lett (upd z23.2 ((((z8.1 * (6 : Int32)) + z23.1)).toNatClampNeg) ((z23.2 ((((z8.1 * (6 : Int32)) + z23.1)).toNatClampNeg)) + y1)) (fun v21_ => some (.inl ((z23.1 + (1 : Int32)), v21_))))) else some (.inl ((z23.1 + (1 : Int32)), z23.2))))))
noncomputable def m_X4_markSame_L8 (v : SV) (n1 : Nat) (x2 : Int32) (y1 : Int32) (z8 : Int32 × (Nat → Int32)) : Option ((Int32 × (Nat → Int32)) ⊕ (Int32 × (Nat → Int32))) :=
  (if (v 0 6) ≤ z8.1 then some (.inr (z8.1, z8.2)) else (lpC (m_X4_markSame_L23 v n1 y1 z8) ((z8.1 + (1 : Int32)), z8.2)).bind (m_X4_markSame_K23 v n1 x2 z8))
noncomputable def m_X4_markSame (v : SV) (u : SV) (w : SV) (n1 : Nat) (f1 : Nat → Int32) (x2 : Int32) : Option ((Nat → Int32)) :=
  (m_J6_bitCount_0f7a4 x2).bind (fun y1 => (lpC (m_X4_markSame_L8 v n1 x2 y1) ((0 : Int32), f1)).bind (m_X4_markSame_K8))
set_option maxHeartbeats 4000000 in
set_option maxRecDepth 100000 in
theorem c_X4_markSame (l : Launch) (D : va_G) (q : Nat → ClassId) (sz : Nat) (a : Nat → Nat) (v : SV) (b : Nat → Nat) (u : SV) (ea : Nat → Nat) (w : SV) (r1 : Nat) (n1 : Nat) (f1 : Nat → Int32) (x2 : Int32) (res : (Nat → Int32)) (hm : m_X4_markSame v u w n1 f1 x2 = some res) : Met l yX4_markSame (mw yX4_markSame cX4_markSame 6 none) ({ frames := 1, cells := 0, slots := 0, locals := 20 } : Room) (pcW D q (wX4 q a v (b 99) (ea 99) ++ (wX3 q b u ++ (wX1 q ea w ++ [(r1, .inl (q 0, n1, .inl f1))]))) sz [.ref (a 99), .ref r1, .int x2]) (va_Qv (fun w => w = res) (bW D q (wX4 q a v (b 99) (ea 99) ++ (wX3 q b u ++ (wX1 q ea w ++ [(r1, .inl (q 0, n1, .inl f1))]))) sz (fun (uu : (Nat → Int32)) => wX4 q a v (b 99) (ea 99) ++ (wX3 q b u ++ (wX1 q ea w ++ [(r1, .inl (q 0, n1, .inl uu))])))) (va_A (wX4 q a v (b 99) (ea 99) ++ (wX3 q b u ++ (wX1 q ea w ++ [(r1, .inl (q 0, n1, .inl f1))]))) sz)) 0 0 (va_A (wX4 q a v (b 99) (ea 99) ++ (wX3 q b u ++ (wX1 q ea w ++ [(r1, .inl (q 0, n1, .inl f1))]))) sz) := by
  refine Met.ofW (cc := cX4_markSame) (maxL := 6) (ret := none) (by decide) rfl ?_
  intro p e s m args below meth c s₁ B hml hv
  obtain ⟨rfl, hsz, hP0, hK, hD0⟩ := hv
  have hx := B.exec
  have hb := B.bytes
  have hr := B.returns
  have hW := mw_ws (atoms_spec (ws := mw yX4_markSame cX4_markSame 6 none) B.pre)
  have hown : s.vm.findClass RX4 = some m.cls := findClass_of_methodNamed B.named
  have hlocks := B.notSynchronized
  have X : Cx p s m [.ref (a 99), .ref r1, .int x2].toArray c cX4_markSame 6 RX4 D q := ⟨hx, hb, hml, hown, hW, hK⟩
  subst hsz
  replace hD0 := hD0.self (sz := s.heap.size)
  have hS0 : va_S (va_A (wX4 q a v (b 99) (ea 99) ++ (wX3 q b u ++ (wX1 q ea w ++ [(r1, .inl (q 0, n1, .inl f1))]))) s.heap.size) s.heap s.heap [] := va_S.rf
  have hl0 := lv_entry ([.ref (a 99), .ref r1, .int x2]) (n := 6) (Nat.le_of_ble_eq_true rfl)
  rw [lg_entry_eq]
  generalize (lg_sl ([.ref (a 99), .ref r1, .int x2]) ++ List.replicate (6 - (lg_sl ([.ref (a 99), .ref r1, .int x2])).length) Slot.unset).toArray = ls0 at hl0 ⊢
  have hl0 : lv_has ls0 6 [(0, .ref (a 99)), (1, .ref r1), (2, .int x2)] := hl0
  unfold m_X4_markSame at hm
  refine lv_iload_n hx hb dX4_markSame_0 rfl (lv_at hl0 2 rfl) ?_
  obtain ⟨y1, hy1, hm⟩ := bn hm
  refine cSRi (As := [.int x2]) (rest := []) X hP0 hl0.1 (c_J6_bitCount_0f7a4 l D q x2 y1 hy1) [] rfl k_683 mJ6_bitCount_0f7a4 ⟨rfl, rfl⟩ ⟨Nat.le_of_ble_eq_true rfl, Nat.le_of_ble_eq_true rfl⟩ rfl rfl (Nat.le_of_ble_eq_true rfl) dX4_markSame_1 ⟨Nat.zero_le _, Nat.zero_le _⟩ ?_
  refine lv_istore_n (lv' := [(3, .int y1), (0, .ref (a 99)), (1, .ref r1), (2, .int x2)]) hx hb dX4_markSame_4 rfl hl0 (by decide) rfl (fun ls1 hl1 => ?_)
  clear hl0
  refine lv_iconst (v := (0 : Int32)) hx hb dX4_markSame_5 (by decide) ?_
  refine lv_istore (lv' := [(4, .int (0 : Int32)), (3, .int y1), (0, .ref (a 99)), (1, .ref r1), (2, .int x2)]) hx hb dX4_markSame_6 hl1 (by decide) rfl (fun ls2 hl2 => ?_)
  clear hl1
  obtain ⟨r8, hr8, hm⟩ := bn hm
  obtain ⟨n8, hn8⟩ := lpC_ex hr8
  have hE8 : ∀ z8 : Int32 × (Nat → Int32), m_X4_markSame_K8 z8 = some res → ∀ (H : Heap) (locs : List Loc), va_P D cls (wX4 q a v (b 99) (ea 99) ++ (wX3 q b u ++ (wX1 q ea w ++ [(r1, .inl (q 0, n1, .inl z8.2))]))) H → va_D (va_A (wX4 q a v (b 99) (ea 99) ++ (wX3 q b u ++ (wX1 q ea w ++ [(r1, .inl (q 0, n1, .inl f1))]))) s.heap.size) (wX4 q a v (b 99) (ea 99) ++ (wX3 q b u ++ (wX1 q ea w ++ [(r1, .inl (q 0, n1, .inl z8.2))]))) → va_S (va_A (wX4 q a v (b 99) (ea 99) ++ (wX3 q b u ++ (wX1 q ea w ++ [(r1, .inl (q 0, n1, .inl f1))]))) s.heap.size) s.heap H locs → ∀ ls : Array Slot, lv_has ls 6 [] → W p l e ((headSpec (mw yX4_markSame cX4_markSame 6 none) ({ frames := 1, cells := 0, slots := 0, locals := 20 } : Room)).room) s m [.ref (a 99), .ref r1, .int x2].toArray below meth c H locs 0 0 (MQ below (va_Qv (fun w => w = res) (bW D q (wX4 q a v (b 99) (ea 99) ++ (wX3 q b u ++ (wX1 q ea w ++ [(r1, .inl (q 0, n1, .inl f1))]))) s.heap.size (fun (uu : (Nat → Int32)) => wX4 q a v (b 99) (ea 99) ++ (wX3 q b u ++ (wX1 q ea w ++ [(r1, .inl (q 0, n1, .inl uu))])))) (va_A (wX4 q a v (b 99) (ea 99) ++ (wX3 q b u ++ (wX1 q ea w ++ [(r1, .inl (q 0, n1, .inl f1))]))) s.heap.size)) [.ref (a 99), .ref r1, .int x2].toArray s 0 0 (va_A (wX4 q a v (b 99) (ea 99) ++ (wX3 q b u ++ (wX1 q ea w ++ [(r1, .inl (q 0, n1, .inl f1))]))) s.heap.size)) (F0 m 101 ls []) := by
    intro z8 hm H6 locs6 hP6 hD6 hS6 ls5 hl5
    unfold m_X4_markSame_K8 at hm
    exact eWv (Wf := fun (uu : (Nat → Int32)) => wX4 q a v (b 99) (ea 99) ++ (wX3 q b u ++ (wX1 q ea w ++ [(r1, .inl (q 0, n1, .inl uu))]))) (u := z8.2) X hr hlocks hP6 hD6 hS6 hm dX4_markSame_101
  have hL8 : ∀ (n : Nat) (z8 : Int32 × (Nat → Int32)) (ρ8 : Int32 × (Nat → Int32)), lpO (m_X4_markSame_L8 v n1 x2 y1) n z8 = some ρ8 → (m_X4_markSame_K8) ρ8 = some res → ∀ (H : Heap) (locs : List Loc), va_P D cls (wX4 q a v (b 99) (ea 99) ++ (wX3 q b u ++ (wX1 q ea w ++ [(r1, .inl (q 0, n1, .inl z8.2))]))) H → va_D (va_A (wX4 q a v (b 99) (ea 99) ++ (wX3 q b u ++ (wX1 q ea w ++ [(r1, .inl (q 0, n1, .inl f1))]))) s.heap.size) (wX4 q a v (b 99) (ea 99) ++ (wX3 q b u ++ (wX1 q ea w ++ [(r1, .inl (q 0, n1, .inl z8.2))]))) → va_S (va_A (wX4 q a v (b 99) (ea 99) ++ (wX3 q b u ++ (wX1 q ea w ++ [(r1, .inl (q 0, n1, .inl f1))]))) s.heap.size) s.heap H locs → ∀ ls : Array Slot, lv_has ls 6 [(3, .int y1), (0, .ref (a 99)), (1, .ref r1), (2, .int x2), (4, .int z8.1)] → W p l e ((headSpec (mw yX4_markSame cX4_markSame 6 none) ({ frames := 1, cells := 0, slots := 0, locals := 20 } : Room)).room) s m [.ref (a 99), .ref r1, .int x2].toArray below meth c H locs 0 0 (MQ below (va_Qv (fun w => w = res) (bW D q (wX4 q a v (b 99) (ea 99) ++ (wX3 q b u ++ (wX1 q ea w ++ [(r1, .inl (q 0, n1, .inl f1))]))) s.heap.size (fun (uu : (Nat → Int32)) => wX4 q a v (b 99) (ea 99) ++ (wX3 q b u ++ (wX1 q ea w ++ [(r1, .inl (q 0, n1, .inl uu))])))) (va_A (wX4 q a v (b 99) (ea 99) ++ (wX3 q b u ++ (wX1 q ea w ++ [(r1, .inl (q 0, n1, .inl f1))]))) s.heap.size)) [.ref (a 99), .ref r1, .int x2].toArray s 0 0 (va_A (wX4 q a v (b 99) (ea 99) ++ (wX3 q b u ++ (wX1 q ea w ++ [(r1, .inl (q 0, n1, .inl f1))]))) s.heap.size)) (F0 m 8 ls []) := by
    intro n
    induction n with
    | zero => intro _ _ h; cases h
    | succ n ih8 =>
      intro z8 ρ8 hz8 hK8 H4 locs4 hP4 hD4 hS4 ls3 hl3
      obtain ⟨t8, hm, hz8⟩ := bn hz8
      unfold m_X4_markSame_L8 at hm
      refine lv_iload hx hb dX4_markSame_8 (lv_at hl3 4 rfl) ?_
      refine lv_aload_n hx hb dX4_markSame_10 rfl (lv_at hl3 1 rfl) ?_
      refine va_get (D := D) (ci := 4) (v := .int (v 0 6)) (C := RX4) (T := TX4) (N := 12) hx hb hW iX4 hown hK hP4 0 rfl rfl 6 (by decide) (hW _ k_258) (fun _ h => h) rfl dX4_markSame_11 ?_
      refine lv_icmp_ge (tgt := 101) hx hb dX4_markSame_14 (by decide) (fun c14 => ?_) (fun c14 => ?_)
      · replace hm := tp hm c14
        cases hm
        cases hz8
        exact hE8 (z8.1, z8.2) hK8 _ _ hP4 hD4 hS4 _ (lv_sub hl3 [] rfl)
      · replace hm := tn hm c14
        refine lv_iload hx hb dX4_markSame_17 (lv_at hl3 4 rfl) ?_
        refine lv_iconst (v := (1 : Int32)) hx hb dX4_markSame_19 (by decide) ?_
        refine lv_iadd hx hb dX4_markSame_20 ?_
        refine lv_istore (lv' := [(5, .int (z8.1 + (1 : Int32))), (3, .int y1), (0, .ref (a 99)), (1, .ref r1), (2, .int x2), (4, .int z8.1)]) hx hb dX4_markSame_21 hl3 (by decide) rfl (fun ls7 hl7 => ?_)
        clear hl3
        obtain ⟨r23, hr23, hm⟩ := bn hm
        obtain ⟨n23, hn23⟩ := lpC_ex hr23
        have hE23 : ∀ z23 : Int32 × (Nat → Int32), m_X4_markSame_K23 v n1 x2 z8 z23 = some t8 → ∀ (H : Heap) (locs : List Loc), va_P D cls (wX4 q a v (b 99) (ea 99) ++ (wX3 q b u ++ (wX1 q ea w ++ [(r1, .inl (q 0, n1, .inl z23.2))]))) H → va_D (va_A (wX4 q a v (b 99) (ea 99) ++ (wX3 q b u ++ (wX1 q ea w ++ [(r1, .inl (q 0, n1, .inl f1))]))) s.heap.size) (wX4 q a v (b 99) (ea 99) ++ (wX3 q b u ++ (wX1 q ea w ++ [(r1, .inl (q 0, n1, .inl z23.2))]))) → va_S (va_A (wX4 q a v (b 99) (ea 99) ++ (wX3 q b u ++ (wX1 q ea w ++ [(r1, .inl (q 0, n1, .inl f1))]))) s.heap.size) s.heap H locs → ∀ ls : Array Slot, lv_has ls 6 [(3, .int y1), (0, .ref (a 99)), (1, .ref r1), (2, .int x2), (4, .int z8.1)] → W p l e ((headSpec (mw yX4_markSame cX4_markSame 6 none) ({ frames := 1, cells := 0, slots := 0, locals := 20 } : Room)).room) s m [.ref (a 99), .ref r1, .int x2].toArray below meth c H locs 0 0 (MQ below (va_Qv (fun w => w = res) (bW D q (wX4 q a v (b 99) (ea 99) ++ (wX3 q b u ++ (wX1 q ea w ++ [(r1, .inl (q 0, n1, .inl f1))]))) s.heap.size (fun (uu : (Nat → Int32)) => wX4 q a v (b 99) (ea 99) ++ (wX3 q b u ++ (wX1 q ea w ++ [(r1, .inl (q 0, n1, .inl uu))])))) (va_A (wX4 q a v (b 99) (ea 99) ++ (wX3 q b u ++ (wX1 q ea w ++ [(r1, .inl (q 0, n1, .inl f1))]))) s.heap.size)) [.ref (a 99), .ref r1, .int x2].toArray s 0 0 (va_A (wX4 q a v (b 99) (ea 99) ++ (wX3 q b u ++ (wX1 q ea w ++ [(r1, .inl (q 0, n1, .inl f1))]))) s.heap.size)) (F0 m 69 ls []) := by
          intro z23 hm H11 locs11 hP11 hD11 hS11 ls10 hl10
          unfold m_X4_markSame_K23 at hm
          refine lv_aload_n hx hb dX4_markSame_69 rfl (lv_at hl10 2 rfl) ?_
          refine lv_iload hx hb dX4_markSame_70 (lv_at hl10 4 rfl) ?_
          refine lv_bipush (v := (6 : Int32)) hx hb dX4_markSame_72 (by decide) ?_
          refine lv_imul hx hb dX4_markSame_74 ?_
          refine lv_aload_n hx hb dX4_markSame_75 rfl (lv_at hl10 1 rfl) ?_
          refine va_get (D := D) (ci := 4) (v := .int (v 0 6)) (C := RX4) (T := TX4) (N := 12) hx hb hW iX4 hown hK hP11 0 rfl rfl 6 (by decide) (hW _ k_258) (fun _ h => h) rfl dX4_markSame_76 ?_
          refine lv_iadd hx hb dX4_markSame_79 ?_
          refine lv_dup2_11 hx hb dX4_markSame_80 rfl rfl ?_
          obtain ⟨h12, hm⟩ := ckd hm
          refine va_iald (f := z23.2) hx hb hK hP11 22 0 rfl rfl (inB_vp h12) dX4_markSame_81 ?_
          refine lv_iload_n hx hb dX4_markSame_82 rfl (lv_at hl10 3 rfl) ?_
          refine lv_aload_n hx hb dX4_markSame_83 rfl (lv_at hl10 1 rfl) ?_
          refine va_get (D := D) (ci := 4) (v := .ref (a 8)) (C := RX4) (T := TX4) (N := 12) hx hb hW iX4 hown hK hP11 0 rfl rfl 8 (by decide) (hW _ k_260) (fun _ h => h) rfl dX4_markSame_84 ?_
          refine lv_iload hx hb dX4_markSame_87 (lv_at hl10 4 rfl) ?_
          obtain ⟨h13, hm⟩ := ckd hm
          refine va_iald (f := (v 8)) hx hb hK hP11 2 0 rfl rfl (inB_vp h13) dX4_markSame_89 ?_
          refine lv_ishr hx hb dX4_markSame_90 ?_
          refine lv_iconst (v := (1 : Int32)) hx hb dX4_markSame_91 (by decide) ?_
          refine lv_iand hx hb dX4_markSame_92 ?_
          refine lv_iadd hx hb dX4_markSame_93 ?_
          obtain ⟨h14, hm⟩ := ckd hm
          refine va_iast (f := z23.2) hx hb hK hP11 hD11 hS11 22 0 rfl rfl (inB_vp h14) dX4_markSame_94 (fun H15 locs15 hP hD hS15 => ?_)
          obtain ⟨v15_, e15, hm⟩ := ltd hm
          have hP15 : va_P D cls (wX4 q a v (b 99) (ea 99) ++ (wX3 q b u ++ (wX1 q ea w ++ [(r1, .inl (q 0, n1, .inl v15_))]))) H15 := by rw [e15]; exact hP
          have hD15 : va_D (va_A (wX4 q a v (b 99) (ea 99) ++ (wX3 q b u ++ (wX1 q ea w ++ [(r1, .inl (q 0, n1, .inl f1))]))) s.heap.size) (wX4 q a v (b 99) (ea 99) ++ (wX3 q b u ++ (wX1 q ea w ++ [(r1, .inl (q 0, n1, .inl v15_))]))) := by rw [e15]; exact hD
          clear hP hD hP11 hD11 hS11
          refine lv_iinc (v := (z8.1 + (1 : Int32))) (lv' := [(4, .int (z8.1 + (1 : Int32))), (3, .int y1), (0, .ref (a 99)), (1, .ref r1), (2, .int x2)]) hx hb dX4_markSame_95 hl10 (k := 4) rfl rfl (by decide) rfl (fun ls16 hl16 => ?_)
          clear hl10
          refine lv_goto (tgt := 8) hx hb dX4_markSame_98 (by decide) ?_
          cases hm
          exact ih8 ((z8.1 + (1 : Int32)), v15_) ρ8 hz8 hK8 _ _ hP15 hD15 hS15 _ (lv_sub hl16 [1, 2, 3, 4, 0] rfl)
        have hL23 : ∀ (n : Nat) (z23 : Int32 × (Nat → Int32)) (ρ23 : Int32 × (Nat → Int32)), lpO (m_X4_markSame_L23 v n1 y1 z8) n z23 = some ρ23 → (m_X4_markSame_K23 v n1 x2 z8) ρ23 = some t8 → ∀ (H : Heap) (locs : List Loc), va_P D cls (wX4 q a v (b 99) (ea 99) ++ (wX3 q b u ++ (wX1 q ea w ++ [(r1, .inl (q 0, n1, .inl z23.2))]))) H → va_D (va_A (wX4 q a v (b 99) (ea 99) ++ (wX3 q b u ++ (wX1 q ea w ++ [(r1, .inl (q 0, n1, .inl f1))]))) s.heap.size) (wX4 q a v (b 99) (ea 99) ++ (wX3 q b u ++ (wX1 q ea w ++ [(r1, .inl (q 0, n1, .inl z23.2))]))) → va_S (va_A (wX4 q a v (b 99) (ea 99) ++ (wX3 q b u ++ (wX1 q ea w ++ [(r1, .inl (q 0, n1, .inl f1))]))) s.heap.size) s.heap H locs → ∀ ls : Array Slot, lv_has ls 6 [(3, .int y1), (0, .ref (a 99)), (1, .ref r1), (2, .int x2), (4, .int z8.1), (5, .int z23.1)] → W p l e ((headSpec (mw yX4_markSame cX4_markSame 6 none) ({ frames := 1, cells := 0, slots := 0, locals := 20 } : Room)).room) s m [.ref (a 99), .ref r1, .int x2].toArray below meth c H locs 0 0 (MQ below (va_Qv (fun w => w = res) (bW D q (wX4 q a v (b 99) (ea 99) ++ (wX3 q b u ++ (wX1 q ea w ++ [(r1, .inl (q 0, n1, .inl f1))]))) s.heap.size (fun (uu : (Nat → Int32)) => wX4 q a v (b 99) (ea 99) ++ (wX3 q b u ++ (wX1 q ea w ++ [(r1, .inl (q 0, n1, .inl uu))])))) (va_A (wX4 q a v (b 99) (ea 99) ++ (wX3 q b u ++ (wX1 q ea w ++ [(r1, .inl (q 0, n1, .inl f1))]))) s.heap.size)) [.ref (a 99), .ref r1, .int x2].toArray s 0 0 (va_A (wX4 q a v (b 99) (ea 99) ++ (wX3 q b u ++ (wX1 q ea w ++ [(r1, .inl (q 0, n1, .inl f1))]))) s.heap.size)) (F0 m 23 ls []) := by
          intro n
          induction n with
          | zero => intro _ _ h; cases h
          | succ n ih23 =>
            intro z23 ρ23 hz23 hK23 H9 locs9 hP9 hD9 hS9 ls8 hl8
            obtain ⟨t23, hm, hz23⟩ := bn hz23
            unfold m_X4_markSame_L23 at hm
            refine lv_iload hx hb dX4_markSame_23 (lv_at hl8 5 rfl) ?_
            refine lv_aload_n hx hb dX4_markSame_25 rfl (lv_at hl8 1 rfl) ?_
            refine va_get (D := D) (ci := 4) (v := .int (v 0 6)) (C := RX4) (T := TX4) (N := 12) hx hb hW iX4 hown hK hP9 0 rfl rfl 6 (by decide) (hW _ k_258) (fun _ h => h) rfl dX4_markSame_26 ?_
            refine lv_icmp_ge (tgt := 69) hx hb dX4_markSame_29 (by decide) (fun c29 => ?_) (fun c29 => ?_)
            · replace hm := tp hm c29
              cases hm
              cases hz23
              exact hE23 (z23.1, z23.2) hK23 _ _ hP9 hD9 hS9 _ (lv_sub hl8 [0, 1, 2, 3, 4] rfl)
            · replace hm := tn hm c29
              refine lv_aload_n hx hb dX4_markSame_32 rfl (lv_at hl8 1 rfl) ?_
              refine va_get (D := D) (ci := 4) (v := .ref (a 8)) (C := RX4) (T := TX4) (N := 12) hx hb hW iX4 hown hK hP9 0 rfl rfl 8 (by decide) (hW _ k_260) (fun _ h => h) rfl dX4_markSame_33 ?_
              refine lv_iload hx hb dX4_markSame_36 (lv_at hl8 4 rfl) ?_
              obtain ⟨h17, hm⟩ := ckd hm
              refine va_iald (f := (v 8)) hx hb hK hP9 2 0 rfl rfl (inB_vp h17) dX4_markSame_38 ?_
              refine lv_aload_n hx hb dX4_markSame_39 rfl (lv_at hl8 1 rfl) ?_
              refine va_get (D := D) (ci := 4) (v := .ref (a 8)) (C := RX4) (T := TX4) (N := 12) hx hb hW iX4 hown hK hP9 0 rfl rfl 8 (by decide) (hW _ k_260) (fun _ h => h) rfl dX4_markSame_40 ?_
              refine lv_iload hx hb dX4_markSame_43 (lv_at hl8 5 rfl) ?_
              obtain ⟨h18, hm⟩ := ckd hm
              refine va_iald (f := (v 8)) hx hb hK hP9 2 0 rfl rfl (inB_vp h18) dX4_markSame_45 ?_
              refine lv_icmp_ne (tgt := 63) hx hb dX4_markSame_46 (by decide) (fun c46 => ?_) (fun c46 => ?_)
              · replace hm := tn hm c46
                refine lv_iinc (v := (z23.1 + (1 : Int32))) (lv' := [(5, .int (z23.1 + (1 : Int32))), (3, .int y1), (0, .ref (a 99)), (1, .ref r1), (2, .int x2), (4, .int z8.1)]) hx hb dX4_markSame_63 hl8 (k := 5) rfl rfl (by decide) rfl (fun ls23 hl23 => ?_)
                clear hl8
                refine lv_goto (tgt := 23) hx hb dX4_markSame_66 (by decide) ?_
                cases hm
                exact ih23 ((z23.1 + (1 : Int32)), z23.2) ρ23 hz23 hK23 _ _ hP9 hD9 hS9 _ (lv_sub hl23 [1, 2, 3, 4, 5, 0] rfl)
              · replace hm := tp hm c46
                refine lv_aload_n hx hb dX4_markSame_49 rfl (lv_at hl8 2 rfl) ?_
                refine lv_iload hx hb dX4_markSame_50 (lv_at hl8 4 rfl) ?_
                refine lv_bipush (v := (6 : Int32)) hx hb dX4_markSame_52 (by decide) ?_
                refine lv_imul hx hb dX4_markSame_54 ?_
                refine lv_iload hx hb dX4_markSame_55 (lv_at hl8 5 rfl) ?_
                refine lv_iadd hx hb dX4_markSame_57 ?_
                refine lv_dup2_11 hx hb dX4_markSame_58 rfl rfl ?_
                obtain ⟨h19, hm⟩ := ckd hm
                refine va_iald (f := z23.2) hx hb hK hP9 22 0 rfl rfl (inB_vp h19) dX4_markSame_59 ?_
                refine lv_iload_n hx hb dX4_markSame_60 rfl (lv_at hl8 0 rfl) ?_
                refine lv_iadd hx hb dX4_markSame_61 ?_
                obtain ⟨h20, hm⟩ := ckd hm
                refine va_iast (f := z23.2) hx hb hK hP9 hD9 hS9 22 0 rfl rfl (inB_vp h20) dX4_markSame_62 (fun H21 locs21 hP hD hS21 => ?_)
                obtain ⟨v21_, e21, hm⟩ := ltd hm
                have hP21 : va_P D cls (wX4 q a v (b 99) (ea 99) ++ (wX3 q b u ++ (wX1 q ea w ++ [(r1, .inl (q 0, n1, .inl v21_))]))) H21 := by rw [e21]; exact hP
                have hD21 : va_D (va_A (wX4 q a v (b 99) (ea 99) ++ (wX3 q b u ++ (wX1 q ea w ++ [(r1, .inl (q 0, n1, .inl f1))]))) s.heap.size) (wX4 q a v (b 99) (ea 99) ++ (wX3 q b u ++ (wX1 q ea w ++ [(r1, .inl (q 0, n1, .inl v21_))]))) := by rw [e21]; exact hD
                clear hP hD hP9 hD9 hS9
                refine lv_iinc (v := (z23.1 + (1 : Int32))) (lv' := [(5, .int (z23.1 + (1 : Int32))), (3, .int y1), (0, .ref (a 99)), (1, .ref r1), (2, .int x2), (4, .int z8.1)]) hx hb dX4_markSame_63 hl8 (k := 5) rfl rfl (by decide) rfl (fun ls22 hl22 => ?_)
                clear hl8
                refine lv_goto (tgt := 23) hx hb dX4_markSame_66 (by decide) ?_
                cases hm
                exact ih23 ((z23.1 + (1 : Int32)), v21_) ρ23 hz23 hK23 _ _ hP21 hD21 hS21 _ (lv_sub hl22 [1, 2, 3, 4, 5, 0] rfl)
        exact hL23 n23 ((z8.1 + (1 : Int32)), z8.2) r23 hn23 hm _ _ hP4 hD4 hS4 _ (lv_sub hl7 [1, 2, 3, 4, 5, 0] rfl)
  exact hL8 n8 ((0 : Int32), f1) r8 hn8 hm _ _ hP0 hD0 hS0 _ (lv_sub hl2 [1, 2, 3, 4, 0] rfl)
noncomputable def m_X4_countSame_K22 (z22 : Int32 × Int32 × SV × (Nat → Int32)) : Option (Int32 × SV × (Nat → Int32)) :=
  some (z22.1, z22.2.2.1, z22.2.2.2)
noncomputable def m_X4_countSame_L22 (u : SV) (w : SV) (n1 : Nat) (z22 : Int32 × Int32 × SV × (Nat → Int32)) : Option ((Int32 × Int32 × SV × (Nat → Int32)) ⊕ (Int32 × Int32 × SV × (Nat → Int32))) :=
  (if (1000000 : Int32) ≤ z22.2.1 then some (.inr (z22.1, z22.2.1, z22.2.2.1, z22.2.2.2)) else (m_X4_advance z22.2.2.1 u w).bind (fun y29 => (if y29.1 = 0 then some (.inr (z22.1, z22.2.1, y29.2, z22.2.2.2)) else (m_X4_allowedAt y29.2 u w (y29.2 0 6)).bind (fun y40 => (m_J6_bitCount_0f7a4 y40).bind (fun y48 => (m_X4_markSame y29.2 u w n1 z22.2.2.2 y40).bind (fun y57 => some (.inl ((z22.1 + y48), (z22.2.1 + (1 : Int32)), y29.2, y57))))))))
noncomputable def m_X4_countSame (v : SV) (u : SV) (w : SV) (n1 : Nat) (f1 : Nat → Int32) : Option (Int32 × SV × (Nat → Int32)) :=
  (m_J7_fill_53178 n1 f1 (0 : Int32)).bind (fun y2 => lett (up2 v 0 6 ((u 0 0) - (1 : Int32))) (fun v2_ => (lpC (m_X4_countSame_L22 u w n1) ((0 : Int32), (0 : Int32), v2_, y2)).bind (m_X4_countSame_K22)))
set_option maxHeartbeats 4000000 in
set_option maxRecDepth 100000 in
theorem c_X4_countSame (l : Launch) (D : va_G) (q : Nat → ClassId) (sz : Nat) (a : Nat → Nat) (v : SV) (b : Nat → Nat) (u : SV) (ea : Nat → Nat) (w : SV) (r1 : Nat) (n1 : Nat) (f1 : Nat → Int32) (res : Int32 × SV × (Nat → Int32)) (hm : m_X4_countSame v u w n1 f1 = some res) : Met l yX4_countSame (mw yX4_countSame cX4_countSame 5 (some .int)) ({ frames := 4, cells := 0, slots := 0, locals := 88 } : Room) (pcW D q (wX4 q a v (b 99) (ea 99) ++ (wX3 q b u ++ (wX1 q ea w ++ [(r1, .inl (q 0, n1, .inl f1))]))) sz [.ref (a 99), .ref r1]) (va_Qi (fun r w => r = res.1 ∧ w = res.2) (bW D q (wX4 q a v (b 99) (ea 99) ++ (wX3 q b u ++ (wX1 q ea w ++ [(r1, .inl (q 0, n1, .inl f1))]))) sz (fun (uu : SV × (Nat → Int32)) => wX4 q a uu.1 (b 99) (ea 99) ++ (wX3 q b u ++ (wX1 q ea w ++ [(r1, .inl (q 0, n1, .inl uu.2))])))) (va_A (wX4 q a v (b 99) (ea 99) ++ (wX3 q b u ++ (wX1 q ea w ++ [(r1, .inl (q 0, n1, .inl f1))]))) sz)) 0 0 (va_A (wX4 q a v (b 99) (ea 99) ++ (wX3 q b u ++ (wX1 q ea w ++ [(r1, .inl (q 0, n1, .inl f1))]))) sz) := by
  refine Met.ofW (cc := cX4_countSame) (maxL := 5) (ret := (some .int)) (by decide) rfl ?_
  intro p e s m args below meth c s₁ B hml hv
  obtain ⟨rfl, hsz, hP0, hK, hD0⟩ := hv
  have hx := B.exec
  have hb := B.bytes
  have hr := B.returns
  have hW := mw_ws (atoms_spec (ws := mw yX4_countSame cX4_countSame 5 (some .int)) B.pre)
  have hown : s.vm.findClass RX4 = some m.cls := findClass_of_methodNamed B.named
  have hlocks := B.notSynchronized
  have X : Cx p s m [.ref (a 99), .ref r1].toArray c cX4_countSame 5 RX4 D q := ⟨hx, hb, hml, hown, hW, hK⟩
  subst hsz
  replace hD0 := hD0.self (sz := s.heap.size)
  have hS0 : va_S (va_A (wX4 q a v (b 99) (ea 99) ++ (wX3 q b u ++ (wX1 q ea w ++ [(r1, .inl (q 0, n1, .inl f1))]))) s.heap.size) s.heap s.heap [] := va_S.rf
  have hl0 := lv_entry ([.ref (a 99), .ref r1]) (n := 5) (Nat.le_of_ble_eq_true rfl)
  rw [lg_entry_eq]
  generalize (lg_sl ([.ref (a 99), .ref r1]) ++ List.replicate (5 - (lg_sl ([.ref (a 99), .ref r1])).length) Slot.unset).toArray = ls0 at hl0 ⊢
  have hl0 : lv_has ls0 5 [(0, .ref (a 99)), (1, .ref r1)] := hl0
  unfold m_X4_countSame at hm
  refine lv_aload_n hx hb dX4_countSame_0 rfl (lv_at hl0 1 rfl) ?_
  refine lv_iconst (v := (0 : Int32)) hx hb dX4_countSame_1 (by decide) ?_
  obtain ⟨y2, hy2, hm⟩ := bn hm
  refine cSWv (As := [.ref r1, .int (0 : Int32)]) (rest := []) (Wn := fun (uu : (Nat → Int32)) => wX4 q a v (b 99) (ea 99) ++ (wX3 q b u ++ (wX1 q ea w ++ [(r1, .inl (q 0, n1, .inl uu))]))) X hP0 hD0 hS0 (fun _ h => Or.inr h) hl0.1 (c_J7_fill_53178 l D q s.heap.size r1 n1 f1 (0 : Int32) y2 hy2) [22] [0, 1, 2, 3, 4, 5, 6, 7, 8, 9, 10, 11, 12, 13, 14, 15, 16, 17, 18, 19, 20, 21] [0, 1, 2, 3, 4, 5, 6, 7, 8, 9, 10, 11, 12, 13, 14, 15, 16, 17, 18, 19, 20, 21, 22] rfl (Wr := wX4 q a v (b 99) (ea 99) ++ (wX3 q b u ++ wX1 q ea w)) rfl (by decide) (by decide) (by decide) (by decide) (fun _ => rfl) k_650 mJ7_fill_53178 ⟨rfl, rfl⟩ ⟨Nat.le_of_ble_eq_true rfl, Nat.le_of_ble_eq_true rfl⟩ rfl rfl (Nat.le_of_ble_eq_true rfl) dX4_countSame_2 ⟨Nat.zero_le _, Nat.zero_le _⟩ (fun H1 locs1 hP hD hS1 => ?_)
  have hP1 : va_P D cls (wX4 q a v (b 99) (ea 99) ++ (wX3 q b u ++ (wX1 q ea w ++ [(r1, .inl (q 0, n1, .inl y2))]))) H1 := hP
  have hD1 : va_D (va_A (wX4 q a v (b 99) (ea 99) ++ (wX3 q b u ++ (wX1 q ea w ++ [(r1, .inl (q 0, n1, .inl f1))]))) s.heap.size) (wX4 q a v (b 99) (ea 99) ++ (wX3 q b u ++ (wX1 q ea w ++ [(r1, .inl (q 0, n1, .inl y2))]))) := hD
  clear hP hD hP0 hD0 hS0
  refine lv_aload_n hx hb dX4_countSame_5 rfl (lv_at hl0 0 rfl) ?_
  refine lv_aload_n hx hb dX4_countSame_6 rfl (lv_at hl0 0 rfl) ?_
  refine va_get (D := D) (ci := 4) (v := .ref (b 99)) (C := RX4) (T := TX4) (N := 12) hx hb hW iX4 hown hK hP1 0 rfl rfl 0 (by decide) (hW _ k_251) (fun _ h => h) rfl dX4_countSame_7 ?_
  refine va_get (D := D) (ci := 3) (v := .int (u 0 0)) (C := RX3) (T := TX3) (N := 17) hx hb hW iX3 hown hK hP1 6 rfl rfl 0 (by decide) (hW _ k_83) (fun _ h => h) rfl dX4_countSame_10 ?_
  refine lv_iconst (v := (1 : Int32)) hx hb dX4_countSame_13 (by decide) ?_
  refine lv_isub hx hb dX4_countSame_14 ?_
  refine va_put (D := D) (ci := 4) (v := .int ((u 0 0) - (1 : Int32))) (ty := .int) (C := RX4) (T := TX4) (N := 12) hx hb hW iX4 tyX4 tyX4_ok nmX4 hown hK hP1 hD1 hS1 0 rfl rfl 6 (by decide) (hW _ k_258) (fun _ h => h) rfl (by decide +kernel) rfl rfl (Nat.le_of_ble_eq_true rfl) dX4_countSame_15 (fun H2 locs2 hP hD hS2 => ?_)
  obtain ⟨v2_, e2, hm⟩ := ltd hm
  have hP2 : va_P D cls (wX4 q a v2_ (b 99) (ea 99) ++ (wX3 q b u ++ (wX1 q ea w ++ [(r1, .inl (q 0, n1, .inl y2))]))) H2 := by rw [e2]; exact hP
  have hD2 : va_D (va_A (wX4 q a v (b 99) (ea 99) ++ (wX3 q b u ++ (wX1 q ea w ++ [(r1, .inl (q 0, n1, .inl f1))]))) s.heap.size) (wX4 q a v2_ (b 99) (ea 99) ++ (wX3 q b u ++ (wX1 q ea w ++ [(r1, .inl (q 0, n1, .inl y2))]))) := by rw [e2]; exact hD
  clear hP hD hP1 hD1 hS1
  refine lv_iconst (v := (0 : Int32)) hx hb dX4_countSame_18 (by decide) ?_
  refine lv_istore_n (lv' := [(2, .int (0 : Int32)), (0, .ref (a 99)), (1, .ref r1)]) hx hb dX4_countSame_19 rfl hl0 (by decide) rfl (fun ls3 hl3 => ?_)
  clear hl0
  refine lv_iconst (v := (0 : Int32)) hx hb dX4_countSame_20 (by decide) ?_
  refine lv_istore_n (lv' := [(3, .int (0 : Int32)), (2, .int (0 : Int32)), (0, .ref (a 99)), (1, .ref r1)]) hx hb dX4_countSame_21 rfl hl3 (by decide) rfl (fun ls4 hl4 => ?_)
  clear hl3
  obtain ⟨r22, hr22, hm⟩ := bn hm
  obtain ⟨n22, hn22⟩ := lpC_ex hr22
  have hE22 : ∀ z22 : Int32 × Int32 × SV × (Nat → Int32), m_X4_countSame_K22 z22 = some res → ∀ (H : Heap) (locs : List Loc), va_P D cls (wX4 q a z22.2.2.1 (b 99) (ea 99) ++ (wX3 q b u ++ (wX1 q ea w ++ [(r1, .inl (q 0, n1, .inl z22.2.2.2))]))) H → va_D (va_A (wX4 q a v (b 99) (ea 99) ++ (wX3 q b u ++ (wX1 q ea w ++ [(r1, .inl (q 0, n1, .inl f1))]))) s.heap.size) (wX4 q a z22.2.2.1 (b 99) (ea 99) ++ (wX3 q b u ++ (wX1 q ea w ++ [(r1, .inl (q 0, n1, .inl z22.2.2.2))]))) → va_S (va_A (wX4 q a v (b 99) (ea 99) ++ (wX3 q b u ++ (wX1 q ea w ++ [(r1, .inl (q 0, n1, .inl f1))]))) s.heap.size) s.heap H locs → ∀ ls : Array Slot, lv_has ls 5 [(2, .int z22.1)] → W p l e ((headSpec (mw yX4_countSame cX4_countSame 5 (some .int)) ({ frames := 4, cells := 0, slots := 0, locals := 88 } : Room)).room) s m [.ref (a 99), .ref r1].toArray below meth c H locs 0 0 (MQ below (va_Qi (fun r w => r = res.1 ∧ w = res.2) (bW D q (wX4 q a v (b 99) (ea 99) ++ (wX3 q b u ++ (wX1 q ea w ++ [(r1, .inl (q 0, n1, .inl f1))]))) s.heap.size (fun (uu : SV × (Nat → Int32)) => wX4 q a uu.1 (b 99) (ea 99) ++ (wX3 q b u ++ (wX1 q ea w ++ [(r1, .inl (q 0, n1, .inl uu.2))])))) (va_A (wX4 q a v (b 99) (ea 99) ++ (wX3 q b u ++ (wX1 q ea w ++ [(r1, .inl (q 0, n1, .inl f1))]))) s.heap.size)) [.ref (a 99), .ref r1].toArray s 0 0 (va_A (wX4 q a v (b 99) (ea 99) ++ (wX3 q b u ++ (wX1 q ea w ++ [(r1, .inl (q 0, n1, .inl f1))]))) s.heap.size)) (F0 m 66 ls []) := by
    intro z22 hm H8 locs8 hP8 hD8 hS8 ls7 hl7
    unfold m_X4_countSame_K22 at hm
    refine lv_iload_n hx hb dX4_countSame_66 rfl (lv_at hl7 0 rfl) ?_
    exact eWi (Wf := fun (uu : SV × (Nat → Int32)) => wX4 q a uu.1 (b 99) (ea 99) ++ (wX3 q b u ++ (wX1 q ea w ++ [(r1, .inl (q 0, n1, .inl uu.2))]))) (u := (z22.2.2.1, z22.2.2.2)) X hr hlocks hP8 hD8 hS8 hm dX4_countSame_67
  have hL22 : ∀ (n : Nat) (z22 : Int32 × Int32 × SV × (Nat → Int32)) (ρ22 : Int32 × Int32 × SV × (Nat → Int32)), lpO (m_X4_countSame_L22 u w n1) n z22 = some ρ22 → (m_X4_countSame_K22) ρ22 = some res → ∀ (H : Heap) (locs : List Loc), va_P D cls (wX4 q a z22.2.2.1 (b 99) (ea 99) ++ (wX3 q b u ++ (wX1 q ea w ++ [(r1, .inl (q 0, n1, .inl z22.2.2.2))]))) H → va_D (va_A (wX4 q a v (b 99) (ea 99) ++ (wX3 q b u ++ (wX1 q ea w ++ [(r1, .inl (q 0, n1, .inl f1))]))) s.heap.size) (wX4 q a z22.2.2.1 (b 99) (ea 99) ++ (wX3 q b u ++ (wX1 q ea w ++ [(r1, .inl (q 0, n1, .inl z22.2.2.2))]))) → va_S (va_A (wX4 q a v (b 99) (ea 99) ++ (wX3 q b u ++ (wX1 q ea w ++ [(r1, .inl (q 0, n1, .inl f1))]))) s.heap.size) s.heap H locs → ∀ ls : Array Slot, lv_has ls 5 [(0, .ref (a 99)), (1, .ref r1), (2, .int z22.1), (3, .int z22.2.1)] → W p l e ((headSpec (mw yX4_countSame cX4_countSame 5 (some .int)) ({ frames := 4, cells := 0, slots := 0, locals := 88 } : Room)).room) s m [.ref (a 99), .ref r1].toArray below meth c H locs 0 0 (MQ below (va_Qi (fun r w => r = res.1 ∧ w = res.2) (bW D q (wX4 q a v (b 99) (ea 99) ++ (wX3 q b u ++ (wX1 q ea w ++ [(r1, .inl (q 0, n1, .inl f1))]))) s.heap.size (fun (uu : SV × (Nat → Int32)) => wX4 q a uu.1 (b 99) (ea 99) ++ (wX3 q b u ++ (wX1 q ea w ++ [(r1, .inl (q 0, n1, .inl uu.2))])))) (va_A (wX4 q a v (b 99) (ea 99) ++ (wX3 q b u ++ (wX1 q ea w ++ [(r1, .inl (q 0, n1, .inl f1))]))) s.heap.size)) [.ref (a 99), .ref r1].toArray s 0 0 (va_A (wX4 q a v (b 99) (ea 99) ++ (wX3 q b u ++ (wX1 q ea w ++ [(r1, .inl (q 0, n1, .inl f1))]))) s.heap.size)) (F0 m 22 ls []) := by
    intro n
    induction n with
    | zero => intro _ _ h; cases h
    | succ n ih22 =>
      intro z22 ρ22 hz22 hK22 H6 locs6 hP6 hD6 hS6 ls5 hl5
      obtain ⟨t22, hm, hz22⟩ := bn hz22
      unfold m_X4_countSame_L22 at hm
      refine lv_iload_n hx hb dX4_countSame_22 rfl (lv_at hl5 3 rfl) ?_
      refine lv_ldc (v := (1000000 : Int32)) hx hb hown (hW _ k_670) dX4_countSame_23 ?_
      refine lv_icmp_ge (tgt := 66) hx hb dX4_countSame_25 (by decide) (fun c25 => ?_) (fun c25 => ?_)
      · replace hm := tp hm c25
        cases hm
        cases hz22
        exact hE22 (z22.1, z22.2.1, z22.2.2.1, z22.2.2.2) hK22 _ _ hP6 hD6 hS6 _ (lv_sub hl5 [2] rfl)
      · replace hm := tn hm c25
        refine lv_aload_n hx hb dX4_countSame_28 rfl (lv_at hl5 0 rfl) ?_
        obtain ⟨y29, hy29, hm⟩ := bn hm
        refine cVWi (As := []) (rest := []) (Wn := fun (uu : SV) => wX4 q a uu (b 99) (ea 99) ++ (wX3 q b u ++ (wX1 q ea w ++ [(r1, .inl (q 0, n1, .inl z22.2.2.2))]))) X hP6 hD6 hS6 (fun _ h => Or.inr h) hl5.1 (c_X4_advance l D q H6.size a z22.2.2.1 b u ea w y29 hy29) [0, 1, 2, 3, 4, 5, 6, 7, 8, 9, 10, 11, 12, 13, 14, 15, 16, 17, 18, 19, 20, 21] [22] [1, 2, 3, 4, 5, 6, 7, 8, 9, 10, 11, 12, 13, 14, 15, 16, 17, 18, 19, 20, 21, 22, 0] rfl (Wr := [(r1, .inl (q 0, n1, .inl z22.2.2.2))]) rfl (by decide) (by decide) (by decide) (by decide) (fun _ => rfl) 0 rfl rfl rfl k_671 mX4_advance ⟨rfl, rfl⟩ ⟨Nat.le_of_ble_eq_true rfl, Nat.le_of_ble_eq_true rfl⟩ rfl rfl (Nat.le_of_ble_eq_true rfl) dX4_countSame_29 ⟨Nat.zero_le _, Nat.zero_le _⟩ (fun H9 locs9 hP hD hS9 => ?_)
        have hP9 : va_P D cls (wX4 q a y29.2 (b 99) (ea 99) ++ (wX3 q b u ++ (wX1 q ea w ++ [(r1, .inl (q 0, n1, .inl z22.2.2.2))]))) H9 := hP
        have hD9 : va_D (va_A (wX4 q a v (b 99) (ea 99) ++ (wX3 q b u ++ (wX1 q ea w ++ [(r1, .inl (q 0, n1, .inl f1))]))) s.heap.size) (wX4 q a y29.2 (b 99) (ea 99) ++ (wX3 q b u ++ (wX1 q ea w ++ [(r1, .inl (q 0, n1, .inl z22.2.2.2))]))) := hD
        clear hP hD hP6 hD6 hS6
        refine lv_if_eq (tgt := 66) hx hb dX4_countSame_32 (by decide) (fun c32 => ?_) (fun c32 => ?_)
        · replace hm := tp hm c32
          cases hm
          cases hz22
          exact hE22 (z22.1, z22.2.1, y29.2, z22.2.2.2) hK22 _ _ hP9 hD9 hS9 _ (lv_sub hl5 [2] rfl)
        · replace hm := tn hm c32
          refine lv_aload_n hx hb dX4_countSame_35 rfl (lv_at hl5 0 rfl) ?_
          refine lv_aload_n hx hb dX4_countSame_36 rfl (lv_at hl5 0 rfl) ?_
          refine va_get (D := D) (ci := 4) (v := .int (y29.2 0 6)) (C := RX4) (T := TX4) (N := 12) hx hb hW iX4 hown hK hP9 0 rfl rfl 6 (by decide) (hW _ k_258) (fun _ h => h) rfl dX4_countSame_37 ?_
          obtain ⟨y40, hy40, hm⟩ := bn hm
          refine cVRi (As := [.int (y29.2 0 6)]) (rest := []) X hP9 hl5.1 (c_X4_allowedAt l D q a y29.2 b u ea w (y29.2 0 6) y40 hy40) [0, 1, 2, 3, 4, 5, 6, 7, 8, 9, 10, 11, 12, 13, 14, 15, 16, 17, 18, 19, 20, 21] rfl 0 rfl rfl rfl k_656 mX4_allowedAt ⟨rfl, rfl⟩ ⟨Nat.le_of_ble_eq_true rfl, Nat.le_of_ble_eq_true rfl⟩ rfl rfl (Nat.le_of_ble_eq_true rfl) dX4_countSame_40 ⟨Nat.zero_le _, Nat.zero_le _⟩ ?_
          refine lv_istore (lv' := [(4, .int y40), (0, .ref (a 99)), (1, .ref r1), (2, .int z22.1), (3, .int z22.2.1)]) hx hb dX4_countSame_43 hl5 (by decide) rfl (fun ls10 hl10 => ?_)
          clear hl5
          refine lv_iload_n hx hb dX4_countSame_45 rfl (lv_at hl10 3 rfl) ?_
          refine lv_iload hx hb dX4_countSame_46 (lv_at hl10 0 rfl) ?_
          obtain ⟨y48, hy48, hm⟩ := bn hm
          refine cSRi (As := [.int y40]) (rest := [.int z22.1]) X hP9 hl10.1 (c_J6_bitCount_0f7a4 l D q y40 y48 hy48) [] rfl k_683 mJ6_bitCount_0f7a4 ⟨rfl, rfl⟩ ⟨Nat.le_of_ble_eq_true rfl, Nat.le_of_ble_eq_true rfl⟩ rfl rfl (Nat.le_of_ble_eq_true rfl) dX4_countSame_48 ⟨Nat.zero_le _, Nat.zero_le _⟩ ?_
          refine lv_iadd hx hb dX4_countSame_51 ?_
          refine lv_istore_n (lv' := [(2, .int (z22.1 + y48)), (4, .int y40), (0, .ref (a 99)), (1, .ref r1), (3, .int z22.2.1)]) hx hb dX4_countSame_52 rfl hl10 (by decide) rfl (fun ls11 hl11 => ?_)
          clear hl10
          refine lv_aload_n hx hb dX4_countSame_53 rfl (lv_at hl11 2 rfl) ?_
          refine lv_aload_n hx hb dX4_countSame_54 rfl (lv_at hl11 3 rfl) ?_
          refine lv_iload hx hb dX4_countSame_55 (lv_at hl11 1 rfl) ?_
          obtain ⟨y57, hy57, hm⟩ := bn hm
          refine cVWv (As := [.ref r1, .int y40]) (rest := []) (Wn := fun (uu : (Nat → Int32)) => wX4 q a y29.2 (b 99) (ea 99) ++ (wX3 q b u ++ (wX1 q ea w ++ [(r1, .inl (q 0, n1, .inl uu))]))) X hP9 hD9 hS9 (fun _ h => Or.inr h) hl11.1 (c_X4_markSame l D q H9.size a y29.2 b u ea w r1 n1 z22.2.2.2 y40 y57 hy57) [0, 1, 2, 3, 4, 5, 6, 7, 8, 9, 10, 11, 12, 13, 14, 15, 16, 17, 18, 19, 20, 21, 22] [] [0, 1, 2, 3, 4, 5, 6, 7, 8, 9, 10, 11, 12, 13, 14, 15, 16, 17, 18, 19, 20, 21, 22] rfl (Wr := []) rfl (by decide) (by decide) (by decide) (by decide) (fun _ => rfl) 0 rfl rfl rfl k_790 mX4_markSame ⟨rfl, rfl⟩ ⟨Nat.le_of_ble_eq_true rfl, Nat.le_of_ble_eq_true rfl⟩ rfl rfl (Nat.le_of_ble_eq_true rfl) dX4_countSame_57 ⟨Nat.zero_le _, Nat.zero_le _⟩ (fun H12 locs12 hP hD hS12 => ?_)
          have hP12 : va_P D cls (wX4 q a y29.2 (b 99) (ea 99) ++ (wX3 q b u ++ (wX1 q ea w ++ [(r1, .inl (q 0, n1, .inl y57))]))) H12 := hP
          have hD12 : va_D (va_A (wX4 q a v (b 99) (ea 99) ++ (wX3 q b u ++ (wX1 q ea w ++ [(r1, .inl (q 0, n1, .inl f1))]))) s.heap.size) (wX4 q a y29.2 (b 99) (ea 99) ++ (wX3 q b u ++ (wX1 q ea w ++ [(r1, .inl (q 0, n1, .inl y57))]))) := hD
          clear hP hD hP9 hD9 hS9
          refine lv_iinc (v := (z22.2.1 + (1 : Int32))) (lv' := [(3, .int (z22.2.1 + (1 : Int32))), (2, .int (z22.1 + y48)), (4, .int y40), (0, .ref (a 99)), (1, .ref r1)]) hx hb dX4_countSame_60 hl11 (k := 4) rfl rfl (by decide) rfl (fun ls13 hl13 => ?_)
          clear hl11
          refine lv_goto (tgt := 22) hx hb dX4_countSame_63 (by decide) ?_
          cases hm
          exact ih22 ((z22.1 + y48), (z22.2.1 + (1 : Int32)), y29.2, y57) ρ22 hz22 hK22 _ _ hP12 hD12 hS12 _ (lv_sub hl13 [3, 4, 1, 0] rfl)
  exact hL22 n22 ((0 : Int32), (0 : Int32), v2_, y2) r22 hn22 hm _ _ hP2 hD2 hS2 _ (lv_sub hl4 [2, 3, 1, 0] rfl)
