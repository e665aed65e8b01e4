-- ===== end of PART A; then your names; then what follows =====
/-! THE CLAIM OUT OF ONE WALK OF THE LAW'S BODY. Your part is whole_start (and what it stands on); all else here is the same for every law, but numbers. -/
def R_law : String := "PartSittersLaw"
def lw_P (b : Addr) (xs : List Int32) (args : Array Value) (s : State) : Prop := args = #[.ref b] ∧ s.IntsAt b xs ∧ xs.length ≤ 320 ∧ (Jvm.Cond.and given_1 narrow_1).before args s = true
def lw_Q (_ : Array Value) (s : State) (o : Outcome) (t : State) : Prop := o = .returned (some (.int 1)) ∧ Framed s o t [] 600000 7302250
def lw_Z (below : List Frame) (a : Array Value) (s : State) : State → Prop := fun t => ∃ o, t.status = .running ∧ Ended t below o ∧ lw_Q a s o t
/-- the law's own end, with 1 on the stack, nothing written that was there before, its room as the claim has it -/
theorem lw_ret {p : Program} {l : Launch} {e : Env} {s : State} {m : MethodId} {below : List Frame} {meth : Method} {c : Code} {b : Nat} (hx : p.tables.exec = Jvm.exec) (hb : c.code = code) (hr : meth.sig.returnType = ret) (hlocks : meth.locks = false) {pc : Nat} {H : Heap} {ls : Array Slot} (hdg : decode code pc = .ok (.ireturn, 1)) : W p l e room_1 s m #[Value.ref b] below meth c H [] 600000 7302250 (lw_Z below #[Value.ref b] s) (F0 m pc ls [.int 1]) := by
  intro T hT X
  obtain ⟨fs, hret, hrun, hended, hW, hframe⟩ := X.leave (v := some (.int 1)) (hlocks := hlocks) (fun h => by rw [hr] at h; cases h)
  have hmeth' : T.vm.method? m = some meth := X.method'
  refine ⟨T.setFrames fs, ?_, .returned (some (.int 1)), hrun, hended, rfl, ⟨_, rfl⟩, hW, hframe⟩
  jvm_step X.here [X.here.top, hx, hb, hdg, hmeth', hr, ret, narrow_b1]
  (try refine ⟨rfl, ?_⟩); (try refine ⟨rfl, ?_⟩)
  first | (intro acts; rw [hret _ acts rfl rfl rfl]) | rw [hret _ _ rfl rfl rfl]
  exact Steps.refl _
/-- what holds at the law's entry: the machine, the code, the tables' words (any of lw_tbl by 'hts w (by decide +kernel)'), the script of L ints xs at the cell b, what the Statement gives of the start (any of its parts by flat_of_before) -/
def lw_At (p : Program) (s : State) (m : MethodId) (meth : Method) (c : Code) (b L : Nat) (xs : Nat → Int32) : Prop :=
  p.tables.exec = Jvm.exec ∧ c.code = code ∧ meth.sig.returnType = ret ∧ c.maxLocals = 4 ∧ s.vm.findClass R_law = some m.cls ∧ (∀ w ∈ lw_tbl, w.before #[Value.ref b] s = true) ∧ va_X b L xs s s.heap ∧ b < s.heap.size ∧ meth.locks = false ∧ (Jvm.Cond.and given_1 narrow_1).before #[Value.ref b] s = true

theorem w_ak {args : Array Value} {s : State} {ty : FieldType} (hne : ∀ C, ty ≠ .object C) (h : (Cond.arrayClass ty).before args s = true) : ∃ cA : ClassId, ArrOfT s cA ty ∧ va_RA s cA ty := by
  obtain ⟨c, k, comp, h1, h2, h3⟩ := Cond.arrayClass_spec h
  refine ⟨c, fun n z => ⟨fun k h => (by cases h), k, h2, comp, h3⟩, ?_⟩
  cases ty with
  | object C => exact absurd rfl (hne C)
  | _ => exact h1
theorem w_akq {s : State} {C : String} (h : va_AO C s) : ∃ cA : ClassId, ArrOfT s cA (.object C) ∧ va_RA s cA (.object C) := by
  obtain ⟨comp, c, k, f1, fi, f2, f3, f4⟩ := Cond.arrayOver_spec h
  exact ⟨c, fun n z => ⟨fun k h => (by cases h), k, f2, comp, f3⟩, k, comp, f2, f3, f1, f4⟩
def sTm (i : Nat) : Term := .string "PartSitters$Reader" (sIx.getD i 0)
theorem w_s1 : ∀ i, i < 9 → Cond.exactly (sTm i) "java/lang/String" ∈ flatC (Jvm.Cond.and given_1 narrow_1) := by decide +kernel
theorem w_s2 : ∀ i, i < 9 → Cond.eq (.field (sTm i) "java/lang/String" "coder" "B") (.int 0) ∈ flatC (Jvm.Cond.and given_1 narrow_1) := by decide +kernel
theorem w_s3 : ∀ i, i < 9 → Cond.arrayOf (.field (sTm i) "java/lang/String" "value" "[B") .byte ∈ flatC (Jvm.Cond.and given_1 narrow_1) := by decide +kernel
theorem w_s4 : ∀ i, i < 9 → Cond.eq (.length (.field (sTm i) "java/lang/String" "value" "[B")) (.int (Int32.ofNat (sLen.getD i 0))) ∈ flatC (Jvm.Cond.and given_1 narrow_1) := by decide +kernel
theorem w_s5 : ∀ i, i < 9 → ∀ j, j < sLen.getD i 0 → Cond.eq (.elem (.field (sTm i) "java/lang/String" "value" "[B") (.int (Int32.ofNat j))) (.int ((sByt.getD i []).getD j 0)) ∈ flatC (Jvm.Cond.and given_1 narrow_1) := by decide +kernel
theorem w_s6 : ∀ i, i < 9 → ∀ j, j < 9 → i ≠ j → (Cond.not (Cond.eq (sTm i) (sTm j)) ∈ flatC (Jvm.Cond.and given_1 narrow_1) ∨ Cond.not (Cond.eq (sTm j) (sTm i)) ∈ flatC (Jvm.Cond.and given_1 narrow_1)) := by decide +kernel
theorem w_s7 : ∀ i, i < 9 → Cond.stringRef RX0 (sIx.getD i 0) (sTx.getD i "") ∈ lw_tbl := by decide +kernel
theorem w_s8 : Cond.eq (.static "java/lang/String" "COMPACT_STRINGS" "Z") (.int 1) ∈ flatC (Jvm.Cond.and given_1 narrow_1) := by decide +kernel
theorem w_s9 : Cond.isRef (.static "jdk/internal/util/Preconditions" "SIOOBE_FORMATTER" "Ljava/util/function/BiFunction;") ∈ flatC (Jvm.Cond.and given_1 narrow_1) := by decide +kernel
theorem w_str {args : Array Value} {s : State} (hts : ∀ w ∈ lw_tbl, w.before args s = true) (hW : ∀ w ∈ WS, w.before args s = true) (hgv : (Jvm.Cond.and given_1 narrow_1).before args s = true) : ∃ aK aV : Nat → Nat, stK aK aV (fun z : Nat => s.heap.size ≤ z) s s.heap ∧ stR aK s := by
  have hs := flat_of_before _ hgv
  have hA : ∀ a : Nat, a < s.heap.size → ¬ (fun z : Nat => s.heap.size ≤ z) a := fun a h => Nat.not_le.mpr h
  obtain ⟨aK, aV, h1, h2⟩ := vk_Sof (args := args) (s := s) (N := 9) (tm := sTm) (len := sLen) (byt := sByt) (A := fun z : Nat => s.heap.size ≤ z) (by decide +kernel) (fun i hi => hs _ (w_s1 i hi)) (fun i hi => hs _ (w_s2 i hi)) (fun i hi => hs _ (w_s3 i hi)) (fun i hi => hs _ (w_s4 i hi)) (fun i hi j hj => hs _ (w_s5 i hi j hj)) (fun i j hi hj hne => (w_s6 i hi j hj hne).imp (hs _) (hs _)) hA
  refine ⟨aK, aV, ⟨h1, va_Zof (hts (Cond.laysStatic "java/lang/String" "COMPACT_STRINGS" "Z") (List.mem_of_getElem? (i := 411) (by decide +kernel))) (hW _ k_48) (va_eqt (hs _ w_s8)) hA, va_Zqof (hts (Cond.laysStatic "jdk/internal/util/Preconditions" "SIOOBE_FORMATTER" "Ljava/util/function/BiFunction;") (List.mem_of_getElem? (i := 427) (by decide +kernel))) (hW _ k_50) (hs _ w_s9) hA⟩, fun i hi => vk_R.of (hts _ (w_s7 i hi)) (h2 i hi)⟩
set_option maxHeartbeats 40000000 in
set_option maxRecDepth 100000 in
theorem whole_start {p : Program} {e : Env} {s : State} {m : MethodId} {below : List Frame} {meth : Method} {c : Code} (l : Launch) (hflags : l.flags = flags0) {b L : Nat} {xs : Nat → Int32} (hL : L ≤ 320) (C0 : lw_At p s m meth c b L xs) : W p l e room_1 s m #[Value.ref b] below meth c s.heap [] 0 0 (lw_Z below #[Value.ref b] s) (entryFrame m ([Value.ref b] : List Value).toArray 4) := by
  obtain ⟨hx, hb, hr, hml, hown, hts, hX, hbl, hlocks, hgv⟩ := id C0
  have hW := ws_tbl hts
  have hA : ∀ z : Nat, s.heap.size ≤ z → (fun z : Nat => s.heap.size ≤ z) z := fun _ h => h
  have hbA : ¬ (fun z : Nat => s.heap.size ≤ z) b := Nat.not_le.mpr hbl
  have hAn : ∀ z : Nat, z < s.heap.size → ¬ (fun z : Nat => s.heap.size ≤ z) z := fun z h => Nat.not_le.mpr h
  obtain ⟨c0, iS0, hKn0⟩ := u_known (ws := WS) (C := RX0) (T := TX0) (N := 13) (n := 13) hW iX0 (hW _ k_64)
  obtain ⟨c1, iS1, hKn1⟩ := u_known (ws := WS) (C := RX1) (T := TX1) (N := 4) (n := 4) hW iX1 (hW _ k_221)
  obtain ⟨c2, iS2, hKn2⟩ := u_known (ws := WS) (C := RX2) (T := TX2) (N := 3) (n := 3) hW iX2 (hW _ k_291)
  obtain ⟨c3, iS3, hKn3⟩ := u_known (ws := WS) (C := RX3) (T := TX3) (N := 17) (n := 17) hW iX3 (hW _ k_70)
  obtain ⟨c4, iS4, hKn4⟩ := u_known (ws := WS) (C := RX4) (T := TX4) (N := 12) (n := 12) hW iX4 (hW _ k_246)
  obtain ⟨c5, iS5, hKn5⟩ := u_known (ws := WS) (C := RX5) (T := TX5) (N := 11) (n := 11) hW iX5 (hW _ k_56)
  obtain ⟨c6, iS6, hKn6⟩ := u_known (ws := WS) (C := RX6) (T := TX6) (N := 40) (n := 40) hW iX6 (hW _ k_862)
  obtain ⟨D, hKc⟩ : ∃ D : va_G, ∀ (k : Nat) (r : vw_C), cls[k]? = some r → u_Kn s r.1 r.2.1 r.2.2 (D.1 k) (D.2 k) := by
    refine ⟨(fun k => match k with | 0 => c0 | 1 => c1 | 2 => c2 | 3 => c3 | 4 => c4 | 5 => c5 | _ => c6, fun k => match k with | 0 => iS0 | 1 => iS1 | 2 => iS2 | 3 => iS3 | 4 => iS4 | 5 => iS5 | _ => iS6), ?_⟩
    intro k r hr9
    match k, hr9 with
    | 0, hr9 => cases hr9; exact hKn0
    | 1, hr9 => cases hr9; exact hKn1
    | 2, hr9 => cases hr9; exact hKn2
    | 3, hr9 => cases hr9; exact hKn3
    | 4, hr9 => cases hr9; exact hKn4
    | 5, hr9 => cases hr9; exact hKn5
    | 6, hr9 => cases hr9; exact hKn6
    | k + 7, hr9 => simp [cls] at hr9
  obtain ⟨q0, hq0⟩ := w_ak (ty := .int) (fun _ h => by cases h) (hW _ k_173)
  obtain ⟨q1, hq1⟩ := w_ak (ty := .byte) (fun _ h => by cases h) (hW _ k_172)
  obtain ⟨q2, hq2⟩ := w_ak (ty := .boolean) (fun _ h => by cases h) (hW _ k_244)
  have hO3 : va_AO "PartSitters$Street" s := va_AO.of (hts (Cond.arrayOver (.object "PartSitters$Street")) (List.mem_of_getElem? (i := 219) (by decide +kernel)))
  have hO4 : va_AO "PartSitters$Sheet" s := va_AO.of (hts (Cond.arrayOver (.object "PartSitters$Sheet")) (List.mem_of_getElem? (i := 290) (by decide +kernel)))
  obtain ⟨q3, hq3⟩ := w_akq hO3
  obtain ⟨q4, hq4⟩ := w_akq hO4
  obtain ⟨q, hq⟩ : ∃ q : Nat → ClassId, ∀ (k : Nat) (r : ClassId × FieldType), (tyq q)[k]? = some r → ArrOfT s r.1 r.2 ∧ va_RA s r.1 r.2 := by
    refine ⟨fun k => match k with | 0 => q0 | 1 => q1 | 2 => q2 | 3 => q3 | _ => q4, ?_⟩
    intro k r hr9
    match k, hr9 with
    | 0, hr9 => cases hr9; exact hq0
    | 1, hr9 => cases hr9; exact hq1
    | 2, hr9 => cases hr9; exact hq2
    | 3, hr9 => cases hr9; exact hq3
    | 4, hr9 => cases hr9; exact hq4
    | k + 5, hr9 => simp [tyq] at hr9
  have hK : va_K D cls (tyq q) s := ⟨hKc, hq⟩
  have hX9 := hX
  obtain ⟨aK, aV, hE, hR'⟩ := w_str hts hW hgv
  have X : Cx p s m #[Value.ref b] c cL_law 4 RL D q := ⟨hx, hb, hml, hown, hW, hK⟩
  obtain ⟨rs, hrs, hm⟩ := law_pure L xs hL
  have hS0 : va_S (fun z : Nat => s.heap.size ≤ z) s.heap s.heap [] := va_S.rf
  have hP0 : va_P D cls [] s.heap := fun k r h => by simp at h
  have hD0 : va_D (fun z : Nat => s.heap.size ≤ z) [] := ⟨fun i j x y h => by simp at h, fun k r h => by simp at h⟩
  have hl := lv_entry ([.ref b]) (n := 4) (Nat.le_of_ble_eq_true rfl)
  rw [lg_entry_eq]
  generalize (lg_sl ([.ref b]) ++ List.replicate (4 - (lg_sl ([.ref b])).length) Slot.unset).toArray = ls at hl ⊢
  have hl : lv_has ls 4 [(0, .ref b)] := hl
  refine va_new (ci := 5) (fs := [.null, .null, .null, .null, .null, .null, .null, .null, .null, .null, .int 0]) (C := RX5) (T := TX5) (N := 11) hx hb hW iX5 tyX5 tyX5_ok hown (hW _ k_55) (hW _ k_56) (hW _ k_40) hK hP0 hD0 hS0 hA rfl (by decide +kernel) (Nat.le_of_ble_eq_true rfl) (Nat.le_of_ble_eq_true rfl) dL_law_0 (fun z1 H1 hP hD hS1 => ?_)
  have hP1 : va_P D cls ([(z1, .inr (5, [.null, .null, .null, .null, .null, .null, .null, .null, .null, .null, .int 0]))]) H1 := hP
  have hD1 : va_D (fun z : Nat => s.heap.size ≤ z) ([(z1, .inr (5, [.null, .null, .null, .null, .null, .null, .null, .null, .null, .null, .int 0]))]) := hD
  clear hP hD
  refine W.widen (k := 1) (n := 11) (Nat.le_of_ble_eq_true rfl) (Nat.le_of_ble_eq_true rfl) ?_
  refine lv_dup hx hb dL_law_3 rfl ?_
  refine cIW (As := []) (rest := [.ref z1]) (Wn := fun u => wALL q u (G0 rs)) X hP1 hD1 hS1 hA hl.1 (c_X5_init l D q H1.size z1 rs hrs) pcA_blind (fun U hU hWm hz hp hk hd => ⟨rfl, hz, hp, hk, hd, va_AO.moved hWm.alike hO3, va_AO.moved hWm.alike hO4⟩) [0] [] [0, 1, 2, 3, 4, 5, 6, 7, 8, 9, 10, 11, 12, 13, 14, 15, 16, 17, 18, 19, 20, 21, 22, 23, 24, 25, 26, 27, 28, 29, 30, 31, 32, 33, 34, 35, 36, 37, 38, 39, 40, 41, 42, 43, 44, 45, 46, 47, 48, 49, 50, 51, 52, 53, 54, 55, 56, 57, 58, 59, 60, 61, 62, 63, 64, 65, 66, 67, 68, 69, 70, 71, 72, 73, 74, 75, 76, 77, 78, 79, 80, 81, 82, 83, 84, 85] rfl (Wr := []) rfl (by decide) (by decide) (by decide) (by decide) (fun _ => rfl) k_57 mX5_init ⟨rfl, rfl⟩ ⟨Nat.le_of_ble_eq_true rfl, Nat.le_of_ble_eq_true rfl⟩ rfl rfl (Nat.le_of_ble_eq_true rfl) dL_law_4 ⟨Nat.le_of_ble_eq_true rfl, Nat.le_of_ble_eq_true rfl⟩ (fun ad H2 locs2 hu hP hD hS2 => ?_)
  obtain rfl := hu
  have hP2 : va_P D cls (wALL q ad (G0 rs)) H2 := hP
  have hD2 : va_D (fun z : Nat => s.heap.size ≤ z) (wALL q ad (G0 rs)) := hD
  clear hP hD hP1 hD1 hS1
  refine W.widen (k := 86) (n := 953) (Nat.le_of_ble_eq_true rfl) (Nat.le_of_ble_eq_true rfl) ?_
  refine lv_astore_n (lv' := [(1, .ref (ad 0 99)), (0, .ref b)]) hx hb dL_law_7 rfl hl (by decide) rfl (fun ls hl => ?_)
  refine va_new (ci := 6) (fs := [.null, .int 0, .int 0, .null, .int 0, .null, .int 0, .null, .null, .null, .int 0, .int 0, .int 0, .int 0, .int 0, .int 0, .int 0, .int 0, .null, .int 0, .int 0, .int 0, .int 0, .int 0, .int 0, .int 0, .int 0, .null, .null, .null, .null, .null, .int 0, .null, .int 0, .null, .null, .null, .null, .int 0]) (C := RX6) (T := TX6) (N := 40) hx hb hW iX6 tyX6 tyX6_ok hown (hW _ k_861) (hW _ k_862) (hW _ k_47) hK hP2 hD2 hS2 hA rfl (by decide +kernel) (Nat.le_of_ble_eq_true rfl) (Nat.le_of_ble_eq_true rfl) dL_law_8 (fun z3 H3 hP hD hS3 => ?_)
  have hP3 : va_P D cls (wALL q ad (G0 rs) ++ [(z3, .inr (6, [.null, .int 0, .int 0, .null, .int 0, .null, .int 0, .null, .null, .null, .int 0, .int 0, .int 0, .int 0, .int 0, .int 0, .int 0, .int 0, .null, .int 0, .int 0, .int 0, .int 0, .int 0, .int 0, .int 0, .int 0, .null, .null, .null, .null, .null, .int 0, .null, .int 0, .null, .null, .null, .null, .int 0]))]) H3 := hP
  have hD3 : va_D (fun z : Nat => s.heap.size ≤ z) (wALL q ad (G0 rs) ++ [(z3, .inr (6, [.null, .int 0, .int 0, .null, .int 0, .null, .int 0, .null, .null, .null, .int 0, .int 0, .int 0, .int 0, .int 0, .int 0, .int 0, .int 0, .null, .int 0, .int 0, .int 0, .int 0, .int 0, .int 0, .int 0, .int 0, .null, .null, .null, .null, .null, .int 0, .null, .int 0, .null, .null, .null, .null, .int 0]))]) := hD
  clear hP hD
  refine W.widen (k := 87) (n := 993) (Nat.le_of_ble_eq_true rfl) (Nat.le_of_ble_eq_true rfl) ?_
  refine lv_dup hx hb dL_law_11 rfl ?_
  refine cIW (As := []) (rest := [.ref z3]) (Wn := fun u => wALL q ad (G0 rs) ++ wX6 q u v_X6) X hP3 hD3 hS3 hA hl.1 (c_X6_init l D q H3.size z3) pcW_blind (fun U hU hWm hz hp hk hd => ⟨rfl, hz, hp, hk, hd⟩) [86] [0, 1, 2, 3, 4, 5, 6, 7, 8, 9, 10, 11, 12, 13, 14, 15, 16, 17, 18, 19, 20, 21, 22, 23, 24, 25, 26, 27, 28, 29, 30, 31, 32, 33, 34, 35, 36, 37, 38, 39, 40, 41, 42, 43, 44, 45, 46, 47, 48, 49, 50, 51, 52, 53, 54, 55, 56, 57, 58, 59, 60, 61, 62, 63, 64, 65, 66, 67, 68, 69, 70, 71, 72, 73, 74, 75, 76, 77, 78, 79, 80, 81, 82, 83, 84, 85] [0, 1, 2, 3, 4, 5, 6, 7, 8, 9, 10, 11, 12, 13, 14, 15, 16, 17, 18, 19, 20, 21, 22, 23, 24, 25, 26, 27, 28, 29, 30, 31, 32, 33, 34, 35, 36, 37, 38, 39, 40, 41, 42, 43, 44, 45, 46, 47, 48, 49, 50, 51, 52, 53, 54, 55, 56, 57, 58, 59, 60, 61, 62, 63, 64, 65, 66, 67, 68, 69, 70, 71, 72, 73, 74, 75, 76, 77, 78, 79, 80, 81, 82, 83, 84, 85, 86, 87, 88, 89, 90, 91, 92, 93, 94, 95, 96, 97, 98, 99, 100, 101, 102, 103] rfl (Wr := wALL q ad (G0 rs)) rfl (by decide) (by decide) (by decide) (by decide) (fun _ => rfl) k_863 mX6_init ⟨rfl, rfl⟩ ⟨Nat.le_of_ble_eq_true rfl, Nat.le_of_ble_eq_true rfl⟩ rfl rfl (Nat.le_of_ble_eq_true rfl) dL_law_12 ⟨Nat.le_of_ble_eq_true rfl, Nat.le_of_ble_eq_true rfl⟩ (fun a H4 locs4 hu hP hD hS4 => ?_)
  obtain rfl := hu
  obtain ⟨hP0, hD0⟩ := wboth (W' := wX5 q ad ((G0 rs) 0) ++ (wX3 q (ad 1) ((G0 rs) 1) ++ (wX3 q (ad 2) ((G0 rs) 2) ++ (wX3 q (ad 3) ((G0 rs) 3) ++ (wX3 q (ad 4) ((G0 rs) 4) ++ (wX0 q (ad 5) ((G0 rs) 5) (ad 6 99) ++ (wX3 q (ad 6) ((G0 rs) 6) ++ (wX1 q (ad 7) ((G0 rs) 7) ++ (wX4 q (ad 8) ((G0 rs) 8) (ad 1 99) (ad 7 99) ++ (wX2 q (ad 9) ((G0 rs) 9) ++ (wX2 q (ad 10) ((G0 rs) 10) ++ (wX2 q (ad 11) ((G0 rs) 11) ++ (wX2 q (ad 12) ((G0 rs) 12) ++ wX6 q a v_X6))))))))))))) (by unfold wALL; simp only [List.append_assoc]) hP hD
  clear hP hD hP3 hD3 hS3 hP2 hD2 hS2
  have hS0 := hS4
  refine W.widen (k := 104) (n := 1852) (Nat.le_of_ble_eq_true rfl) (Nat.le_of_ble_eq_true rfl) ?_
  refine lv_astore_n (lv' := [(2, .ref (a 99)), (1, .ref (ad 0 99)), (0, .ref b)]) hx hb dL_law_15 rfl hl (by decide) rfl (fun ls0 hl0 => ?_)
  unfold m_L_law at hm
  refine lv_iconst (v := (0 : Int32)) hx hb dL_law_16 (by decide) ?_
  refine lv_istore_n (lv' := [(3, .int (0 : Int32)), (2, .ref (a 99)), (1, .ref (ad 0 99)), (0, .ref b)]) hx hb dL_law_17 rfl hl0 (by decide) rfl (fun ls1 hl1 => ?_)
  clear hl0
  obtain ⟨r18, hr18, hm⟩ := bn hm
  obtain ⟨n18, hn18⟩ := lpC_ex hr18
  have hE18 : ∀ z18 : Int32 × (Nat → SV) × SV, m_L_law_K18 z18 = some (1 : Int32) → ∀ (H : Heap) (locs : List Loc), va_P D cls (wX5 q ad (z18.2.1 0) ++ (wX3 q (ad 1) (z18.2.1 1) ++ (wX3 q (ad 2) (z18.2.1 2) ++ (wX3 q (ad 3) (z18.2.1 3) ++ (wX3 q (ad 4) (z18.2.1 4) ++ (wX0 q (ad 5) (z18.2.1 5) (ad 6 99) ++ (wX3 q (ad 6) (z18.2.1 6) ++ (wX1 q (ad 7) (z18.2.1 7) ++ (wX4 q (ad 8) (z18.2.1 8) (ad 1 99) (ad 7 99) ++ (wX2 q (ad 9) (z18.2.1 9) ++ (wX2 q (ad 10) (z18.2.1 10) ++ (wX2 q (ad 11) (z18.2.1 11) ++ (wX2 q (ad 12) (z18.2.1 12) ++ wX6 q a z18.2.2))))))))))))) H → va_D (fun z : Nat => s.heap.size ≤ z) (wX5 q ad (z18.2.1 0) ++ (wX3 q (ad 1) (z18.2.1 1) ++ (wX3 q (ad 2) (z18.2.1 2) ++ (wX3 q (ad 3) (z18.2.1 3) ++ (wX3 q (ad 4) (z18.2.1 4) ++ (wX0 q (ad 5) (z18.2.1 5) (ad 6 99) ++ (wX3 q (ad 6) (z18.2.1 6) ++ (wX1 q (ad 7) (z18.2.1 7) ++ (wX4 q (ad 8) (z18.2.1 8) (ad 1 99) (ad 7 99) ++ (wX2 q (ad 9) (z18.2.1 9) ++ (wX2 q (ad 10) (z18.2.1 10) ++ (wX2 q (ad 11) (z18.2.1 11) ++ (wX2 q (ad 12) (z18.2.1 12) ++ wX6 q a z18.2.2))))))))))))) → va_S (fun z : Nat => s.heap.size ≤ z) s.heap H locs → ∀ ls : Array Slot, lv_has ls 4 [] → W p l e room_1 s m #[Value.ref b] below meth c H locs 104 1852 (lw_Z below #[Value.ref b] s) (F0 m 1373 ls []) := by
    intro z18 hm H5 locs5 hP5 hD5 hS5 ls4 hl4
    unfold m_L_law_K18 at hm
    refine lv_iconst (v := (1 : Int32)) hx hb dL_law_1373 (by decide) ?_
    refine va_forget (fun x9 h9 => hS5.2.2 x9 h9) ?_
    refine W.widen (k := 600000) (n := 7302250) (Nat.le_of_ble_eq_true rfl) (Nat.le_of_ble_eq_true rfl) ?_
    exact lw_ret hx hb hr hlocks dL_law_1374
  have hL18 : ∀ (n : Nat) (z18 : Int32 × (Nat → SV) × SV) (ρ18 : (Int32 × (Nat → SV) × SV) ⊕ (Int32)), lpO (m_L_law_L18 L xs) n z18 = some ρ18 → (Sum.elim (m_L_law_K18) (fun y => some y)) ρ18 = some (1 : Int32) → ∀ (H : Heap) (locs : List Loc), va_P D cls (wX5 q ad (z18.2.1 0) ++ (wX3 q (ad 1) (z18.2.1 1) ++ (wX3 q (ad 2) (z18.2.1 2) ++ (wX3 q (ad 3) (z18.2.1 3) ++ (wX3 q (ad 4) (z18.2.1 4) ++ (wX0 q (ad 5) (z18.2.1 5) (ad 6 99) ++ (wX3 q (ad 6) (z18.2.1 6) ++ (wX1 q (ad 7) (z18.2.1 7) ++ (wX4 q (ad 8) (z18.2.1 8) (ad 1 99) (ad 7 99) ++ (wX2 q (ad 9) (z18.2.1 9) ++ (wX2 q (ad 10) (z18.2.1 10) ++ (wX2 q (ad 11) (z18.2.1 11) ++ (wX2 q (ad 12) (z18.2.1 12) ++ wX6 q a z18.2.2))))))))))))) H → va_D (fun z : Nat => s.heap.size ≤ z) (wX5 q ad (z18.2.1 0) ++ (wX3 q (ad 1) (z18.2.1 1) ++ (wX3 q (ad 2) (z18.2.1 2) ++ (wX3 q (ad 3) (z18.2.1 3) ++ (wX3 q (ad 4) (z18.2.1 4) ++ (wX0 q (ad 5) (z18.2.1 5) (ad 6 99) ++ (wX3 q (ad 6) (z18.2.1 6) ++ (wX1 q (ad 7) (z18.2.1 7) ++ (wX4 q (ad 8) (z18.2.1 8) (ad 1 99) (ad 7 99) ++ (wX2 q (ad 9) (z18.2.1 9) ++ (wX2 q (ad 10) (z18.2.1 10) ++ (wX2 q (ad 11) (z18.2.1 11) ++ (wX2 q (ad 12) (z18.2.1 12) ++ wX6 q a z18.2.2))))))))))))) → va_S (fun z : Nat => s.heap.size ≤ z) s.heap H locs → ∀ ls : Array Slot, lv_has ls 4 [(2, .ref (a 99)), (1, .ref (ad 0 99)), (0, .ref b), (3, .int z18.1)] → W p l e room_1 s m #[Value.ref b] below meth c H locs 104 1852 (lw_Z below #[Value.ref b] s) (F0 m 18 ls []) := by
    intro n
    induction n with
    | zero => intro _ _ h; cases h
    | succ n ih18 =>
      intro z18 ρ18 hz18 hK18 H3 locs3 hP3 hD3 hS3 ls2 hl2
      obtain ⟨t18, hm, hz18⟩ := bn hz18
      unfold m_L_law_L18 at hm
      refine lv_iload_n hx hb dL_law_18 rfl (lv_at hl2 3 rfl) ?_
      refine lv_aload_n hx hb dL_law_19 rfl (lv_at hl2 2 rfl) ?_
      refine va_slen hx hb hX hbl hbA hS3 dL_law_20 ?_
      refine lv_iconst (v := (5 : Int32)) hx hb dL_law_21 (by decide) ?_
      refine lv_isub hx hb dL_law_22 ?_
      refine lv_icmp_gt (tgt := 1373) hx hb dL_law_23 (by decide) (fun c23 => ?_) (fun c23 => ?_)
      · replace hm := tp hm c23
        cases hm
        cases hz18
        exact hE18 (z18.1, z18.2.1, z18.2.2) hK18 _ _ hP3 hD3 hS3 _ (lv_sub hl2 [] rfl)
      · replace hm := tn hm c23
        refine lv_aload_n hx hb dL_law_26 rfl (lv_at hl2 2 rfl) ?_
        refine lv_iload_n hx hb dL_law_27 rfl (lv_at hl2 3 rfl) ?_
        obtain ⟨h6, hm⟩ := ckd hm
        refine va_sld hx hb hX hbl hbA hS3 (inB_vp h6) dL_law_28 ?_
        refine lv_bipush (v := (63 : Int32)) hx hb dL_law_29 (by decide) ?_
        refine lv_iand hx hb dL_law_31 ?_
        by_cases c32_0 : ((xs (z18.1).toNatClampNeg) &&& (63 : Int32)) = (0 : Int32)
        · replace hm := tp hm c32_0
          refine lv_tableIn (off := 176) (tgt := 208) hx hb dL_law_32 (by rw [c32_0]; decide) (by rw [c32_0]; decide) (by rw [c32_0]; rfl) (by decide) ?_
          refine lv_aload_n hx hb dL_law_208 rfl (lv_at hl2 1 rfl) ?_
          refine lv_aload_n hx hb dL_law_209 rfl (lv_at hl2 2 rfl) ?_
          refine lv_iload_n hx hb dL_law_210 rfl (lv_at hl2 3 rfl) ?_
          refine lv_iconst (v := (1 : Int32)) hx hb dL_law_211 (by decide) ?_
          refine lv_iadd hx hb dL_law_212 ?_
          obtain ⟨h7, hm⟩ := ckd hm
          refine va_sld hx hb hX hbl hbA hS3 (inB_vp h7) dL_law_213 ?_
          obtain ⟨y214, hy214, hm⟩ := bn hm
          refine cVWi (As := [.int (xs ((z18.1 + (1 : Int32))).toNatClampNeg)]) (rest := []) (Wn := fun (uu : SV) => wX5 q ad (z18.2.1 0) ++ (wX3 q (ad 1) (z18.2.1 1) ++ (wX3 q (ad 2) (z18.2.1 2) ++ (wX3 q (ad 3) (z18.2.1 3) ++ (wX3 q (ad 4) (z18.2.1 4) ++ (wX0 q (ad 5) uu (ad 6 99) ++ (wX3 q (ad 6) (z18.2.1 6) ++ (wX1 q (ad 7) (z18.2.1 7) ++ (wX4 q (ad 8) (z18.2.1 8) (ad 1 99) (ad 7 99) ++ (wX2 q (ad 9) (z18.2.1 9) ++ (wX2 q (ad 10) (z18.2.1 10) ++ (wX2 q (ad 11) (z18.2.1 11) ++ (wX2 q (ad 12) (z18.2.1 12) ++ wX6 q a z18.2.2))))))))))))) X hP3 hD3 hS3 (fun _ h => h) hl2.1 (c_X5_feed l D q H3.size ad (z18.2.1 0) (z18.2.1 5) (z18.2.1 6) (xs ((z18.1 + (1 : Int32))).toNatClampNeg) y214 hy214) [0, 1, 2, 3, 4, 5, 54, 55, 56, 57, 58, 59, 60, 61, 62, 63, 64, 65, 66, 67] [6, 7, 8, 9, 10, 11, 12, 13, 14, 15, 16, 17, 18, 19, 20, 21, 22, 23, 24, 25, 26, 27, 28, 29, 30, 31, 32, 33, 34, 35, 36, 37, 38, 39, 40, 41, 42, 43, 44, 45, 46, 47, 48, 49, 50, 51, 52, 53, 68, 69, 70, 71, 72, 73, 74, 75, 76, 77, 78, 79, 80, 81, 82, 83, 84, 85, 86, 87, 88, 89, 90, 91, 92, 93, 94, 95, 96, 97, 98, 99, 100, 101, 102, 103] [84, 85, 86, 87, 88, 89, 0, 1, 2, 3, 4, 5, 6, 7, 8, 9, 10, 11, 12, 13, 14, 15, 16, 17, 18, 19, 20, 21, 22, 23, 24, 25, 26, 27, 28, 29, 30, 31, 32, 33, 34, 35, 36, 37, 38, 39, 40, 41, 42, 43, 44, 45, 46, 47, 90, 91, 92, 93, 94, 95, 96, 97, 98, 99, 100, 101, 102, 103, 48, 49, 50, 51, 52, 53, 54, 55, 56, 57, 58, 59, 60, 61, 62, 63, 64, 65, 66, 67, 68, 69, 70, 71, 72, 73, 74, 75, 76, 77, 78, 79, 80, 81, 82, 83] rfl (Wr := wX3 q (ad 1) (z18.2.1 1) ++ (wX3 q (ad 2) (z18.2.1 2) ++ (wX3 q (ad 3) (z18.2.1 3) ++ (wX3 q (ad 4) (z18.2.1 4) ++ (wX1 q (ad 7) (z18.2.1 7) ++ (wX4 q (ad 8) (z18.2.1 8) (ad 1 99) (ad 7 99) ++ (wX2 q (ad 9) (z18.2.1 9) ++ (wX2 q (ad 10) (z18.2.1 10) ++ (wX2 q (ad 11) (z18.2.1 11) ++ (wX2 q (ad 12) (z18.2.1 12) ++ wX6 q a z18.2.2)))))))))) rfl (by decide) (by decide) (by decide) (by decide) (fun _ => rfl) 0 rfl rfl rfl k_342 mX5_feed ⟨rfl, rfl⟩ ⟨Nat.le_of_ble_eq_true rfl, Nat.le_of_ble_eq_true rfl⟩ rfl rfl (Nat.le_of_ble_eq_true rfl) dL_law_214 ⟨Nat.le_of_ble_eq_true rfl, Nat.le_of_ble_eq_true rfl⟩ (fun H8 locs8 hP hD hS8 => ?_)
          have hP8 : va_P D cls (wX5 q ad (z18.2.1 0) ++ (wX3 q (ad 1) (z18.2.1 1) ++ (wX3 q (ad 2) (z18.2.1 2) ++ (wX3 q (ad 3) (z18.2.1 3) ++ (wX3 q (ad 4) (z18.2.1 4) ++ (wX0 q (ad 5) y214.2 (ad 6 99) ++ (wX3 q (ad 6) (z18.2.1 6) ++ (wX1 q (ad 7) (z18.2.1 7) ++ (wX4 q (ad 8) (z18.2.1 8) (ad 1 99) (ad 7 99) ++ (wX2 q (ad 9) (z18.2.1 9) ++ (wX2 q (ad 10) (z18.2.1 10) ++ (wX2 q (ad 11) (z18.2.1 11) ++ (wX2 q (ad 12) (z18.2.1 12) ++ wX6 q a z18.2.2))))))))))))) H8 := hP
          have hD8 : va_D (fun z : Nat => s.heap.size ≤ z) (wX5 q ad (z18.2.1 0) ++ (wX3 q (ad 1) (z18.2.1 1) ++ (wX3 q (ad 2) (z18.2.1 2) ++ (wX3 q (ad 3) (z18.2.1 3) ++ (wX3 q (ad 4) (z18.2.1 4) ++ (wX0 q (ad 5) y214.2 (ad 6 99) ++ (wX3 q (ad 6) (z18.2.1 6) ++ (wX1 q (ad 7) (z18.2.1 7) ++ (wX4 q (ad 8) (z18.2.1 8) (ad 1 99) (ad 7 99) ++ (wX2 q (ad 9) (z18.2.1 9) ++ (wX2 q (ad 10) (z18.2.1 10) ++ (wX2 q (ad 11) (z18.2.1 11) ++ (wX2 q (ad 12) (z18.2.1 12) ++ wX6 q a z18.2.2))))))))))))) := hD
          clear hP hD hP3 hD3 hS3
          refine lv_aload_n hx hb dL_law_217 rfl (lv_at hl2 0 rfl) ?_
          refine lv_aload_n hx hb dL_law_218 rfl (lv_at hl2 2 rfl) ?_
          refine lv_iload_n hx hb dL_law_219 rfl (lv_at hl2 3 rfl) ?_
          refine lv_iconst (v := (1 : Int32)) hx hb dL_law_220 (by decide) ?_
          refine lv_iadd hx hb dL_law_221 ?_
          obtain ⟨h9, hm⟩ := ckd hm
          refine va_sld hx hb hX hbl hbA hS8 (inB_vp h9) dL_law_222 ?_
          obtain ⟨y223, hy223, hm⟩ := bn hm
          refine cVWi (As := [.int (xs ((z18.1 + (1 : Int32))).toNatClampNeg)]) (rest := [.int y214.1]) (Wn := fun (uu : SV) => wX5 q ad (z18.2.1 0) ++ (wX3 q (ad 1) (z18.2.1 1) ++ (wX3 q (ad 2) (z18.2.1 2) ++ (wX3 q (ad 3) (z18.2.1 3) ++ (wX3 q (ad 4) (z18.2.1 4) ++ (wX0 q (ad 5) y214.2 (ad 6 99) ++ (wX3 q (ad 6) (z18.2.1 6) ++ (wX1 q (ad 7) (z18.2.1 7) ++ (wX4 q (ad 8) (z18.2.1 8) (ad 1 99) (ad 7 99) ++ (wX2 q (ad 9) (z18.2.1 9) ++ (wX2 q (ad 10) (z18.2.1 10) ++ (wX2 q (ad 11) (z18.2.1 11) ++ (wX2 q (ad 12) (z18.2.1 12) ++ wX6 q a uu))))))))))))) X hP8 hD8 hS8 (fun _ h => h) hl2.1 (c_X6_feed l D q H8.size a z18.2.2 (xs ((z18.1 + (1 : Int32))).toNatClampNeg) y223 hy223) [86, 87, 88, 89, 90, 91, 92, 93, 94, 95, 96, 97, 98, 99, 100, 101, 102, 103] [0, 1, 2, 3, 4, 5, 6, 7, 8, 9, 10, 11, 12, 13, 14, 15, 16, 17, 18, 19, 20, 21, 22, 23, 24, 25, 26, 27, 28, 29, 30, 31, 32, 33, 34, 35, 36, 37, 38, 39, 40, 41, 42, 43, 44, 45, 46, 47, 48, 49, 50, 51, 52, 53, 54, 55, 56, 57, 58, 59, 60, 61, 62, 63, 64, 65, 66, 67, 68, 69, 70, 71, 72, 73, 74, 75, 76, 77, 78, 79, 80, 81, 82, 83, 84, 85] [0, 1, 2, 3, 4, 5, 6, 7, 8, 9, 10, 11, 12, 13, 14, 15, 16, 17, 18, 19, 20, 21, 22, 23, 24, 25, 26, 27, 28, 29, 30, 31, 32, 33, 34, 35, 36, 37, 38, 39, 40, 41, 42, 43, 44, 45, 46, 47, 48, 49, 50, 51, 52, 53, 54, 55, 56, 57, 58, 59, 60, 61, 62, 63, 64, 65, 66, 67, 68, 69, 70, 71, 72, 73, 74, 75, 76, 77, 78, 79, 80, 81, 82, 83, 84, 85, 86, 87, 88, 89, 90, 91, 92, 93, 94, 95, 96, 97, 98, 99, 100, 101, 102, 103] rfl (Wr := wX5 q ad (z18.2.1 0) ++ (wX3 q (ad 1) (z18.2.1 1) ++ (wX3 q (ad 2) (z18.2.1 2) ++ (wX3 q (ad 3) (z18.2.1 3) ++ (wX3 q (ad 4) (z18.2.1 4) ++ (wX0 q (ad 5) y214.2 (ad 6 99) ++ (wX3 q (ad 6) (z18.2.1 6) ++ (wX1 q (ad 7) (z18.2.1 7) ++ (wX4 q (ad 8) (z18.2.1 8) (ad 1 99) (ad 7 99) ++ (wX2 q (ad 9) (z18.2.1 9) ++ (wX2 q (ad 10) (z18.2.1 10) ++ (wX2 q (ad 11) (z18.2.1 11) ++ wX2 q (ad 12) (z18.2.1 12))))))))))))) rfl (by decide) (by decide) (by decide) (by decide) (fun _ => rfl) 86 rfl rfl rfl k_988 mX6_feed ⟨rfl, rfl⟩ ⟨Nat.le_of_ble_eq_true rfl, Nat.le_of_ble_eq_true rfl⟩ rfl rfl (Nat.le_of_ble_eq_true rfl) dL_law_223 ⟨Nat.le_of_ble_eq_true rfl, Nat.le_of_ble_eq_true rfl⟩ (fun H10 locs10 hP hD hS10 => ?_)
          have hP10 : va_P D cls (wX5 q ad (z18.2.1 0) ++ (wX3 q (ad 1) (z18.2.1 1) ++ (wX3 q (ad 2) (z18.2.1 2) ++ (wX3 q (ad 3) (z18.2.1 3) ++ (wX3 q (ad 4) (z18.2.1 4) ++ (wX0 q (ad 5) y214.2 (ad 6 99) ++ (wX3 q (ad 6) (z18.2.1 6) ++ (wX1 q (ad 7) (z18.2.1 7) ++ (wX4 q (ad 8) (z18.2.1 8) (ad 1 99) (ad 7 99) ++ (wX2 q (ad 9) (z18.2.1 9) ++ (wX2 q (ad 10) (z18.2.1 10) ++ (wX2 q (ad 11) (z18.2.1 11) ++ (wX2 q (ad 12) (z18.2.1 12) ++ wX6 q a y223.2))))))))))))) H10 := hP
          have hD10 : va_D (fun z : Nat => s.heap.size ≤ z) (wX5 q ad (z18.2.1 0) ++ (wX3 q (ad 1) (z18.2.1 1) ++ (wX3 q (ad 2) (z18.2.1 2) ++ (wX3 q (ad 3) (z18.2.1 3) ++ (wX3 q (ad 4) (z18.2.1 4) ++ (wX0 q (ad 5) y214.2 (ad 6 99) ++ (wX3 q (ad 6) (z18.2.1 6) ++ (wX1 q (ad 7) (z18.2.1 7) ++ (wX4 q (ad 8) (z18.2.1 8) (ad 1 99) (ad 7 99) ++ (wX2 q (ad 9) (z18.2.1 9) ++ (wX2 q (ad 10) (z18.2.1 10) ++ (wX2 q (ad 11) (z18.2.1 11) ++ (wX2 q (ad 12) (z18.2.1 12) ++ wX6 q a y223.2))))))))))))) := hD
          clear hP hD hP8 hD8 hS8
          refine lv_icmp_eq (tgt := 1367) hx hb dL_law_226 (by decide) (fun c226 => ?_) (fun c226 => ?_)
          · replace hm := tp hm c226
            refine lv_iinc (v := (z18.1 + (5 : Int32))) (lv' := [(3, .int (z18.1 + (5 : Int32))), (2, .ref (a 99)), (1, .ref (ad 0 99)), (0, .ref b)]) hx hb dL_law_1367 hl2 (k := 3) rfl rfl (by decide) rfl (fun ls11 hl11 => ?_)
            clear hl2
            refine lv_goto (tgt := 18) hx hb dL_law_1370 (by decide) ?_
            cases hm
            exact ih18 ((z18.1 + (5 : Int32)), (mkG (z18.2.1 0) (z18.2.1 1) (z18.2.1 2) (z18.2.1 3) (z18.2.1 4) y214.2 (z18.2.1 6) (z18.2.1 7) (z18.2.1 8) (z18.2.1 9) (z18.2.1 10) (z18.2.1 11) (z18.2.1 12)), y223.2) ρ18 hz18 hK18 _ _ hP10 hD10 hS10 _ (lv_sub hl11 [1, 2, 3, 0] rfl)
          · replace hm := tn hm c226
            refine lv_iconst (v := (0 : Int32)) hx hb dL_law_229 (by decide) ?_
            cases hm
            cases hz18
            have hm : (some (0 : Int32) : Option Int32) = some (1 : Int32) := hK18
            exact absurd (Option.some.inj hm) (by decide)
        · replace hm := tn hm c32_0
          by_cases c32_1 : ((xs (z18.1).toNatClampNeg) &&& (63 : Int32)) = (1 : Int32)
          · replace hm := tp hm c32_1
            refine lv_tableIn (off := 199) (tgt := 231) hx hb dL_law_32 (by rw [c32_1]; decide) (by rw [c32_1]; decide) (by rw [c32_1]; rfl) (by decide) ?_
            refine lv_aload_n hx hb dL_law_231 rfl (lv_at hl2 1 rfl) ?_
            refine lv_aload_n hx hb dL_law_232 rfl (lv_at hl2 2 rfl) ?_
            refine lv_iload_n hx hb dL_law_233 rfl (lv_at hl2 3 rfl) ?_
            refine lv_iconst (v := (1 : Int32)) hx hb dL_law_234 (by decide) ?_
            refine lv_iadd hx hb dL_law_235 ?_
            obtain ⟨h12, hm⟩ := ckd hm
            refine va_sld hx hb hX hbl hbA hS3 (inB_vp h12) dL_law_236 ?_
            obtain ⟨y237, hy237, hm⟩ := bn hm
            refine cVWi (As := [.int (xs ((z18.1 + (1 : Int32))).toNatClampNeg)]) (rest := []) (Wn := fun (uu : SV) => wX5 q ad (z18.2.1 0) ++ (wX3 q (ad 1) (z18.2.1 1) ++ (wX3 q (ad 2) (z18.2.1 2) ++ (wX3 q (ad 3) (z18.2.1 3) ++ (wX3 q (ad 4) (z18.2.1 4) ++ (wX0 q (ad 5) uu (ad 6 99) ++ (wX3 q (ad 6) (z18.2.1 6) ++ (wX1 q (ad 7) (z18.2.1 7) ++ (wX4 q (ad 8) (z18.2.1 8) (ad 1 99) (ad 7 99) ++ (wX2 q (ad 9) (z18.2.1 9) ++ (wX2 q (ad 10) (z18.2.1 10) ++ (wX2 q (ad 11) (z18.2.1 11) ++ (wX2 q (ad 12) (z18.2.1 12) ++ wX6 q a z18.2.2))))))))))))) X hP3 hD3 hS3 (fun _ h => h) hl2.1 (c_X5_end l D q H3.size ad (z18.2.1 0) (z18.2.1 5) (z18.2.1 6) (xs ((z18.1 + (1 : Int32))).toNatClampNeg) y237 hy237) [0, 1, 2, 3, 4, 5, 54, 55, 56, 57, 58, 59, 60, 61, 62, 63, 64, 65, 66, 67] [6, 7, 8, 9, 10, 11, 12, 13, 14, 15, 16, 17, 18, 19, 20, 21, 22, 23, 24, 25, 26, 27, 28, 29, 30, 31, 32, 33, 34, 35, 36, 37, 38, 39, 40, 41, 42, 43, 44, 45, 46, 47, 48, 49, 50, 51, 52, 53, 68, 69, 70, 71, 72, 73, 74, 75, 76, 77, 78, 79, 80, 81, 82, 83, 84, 85, 86, 87, 88, 89, 90, 91, 92, 93, 94, 95, 96, 97, 98, 99, 100, 101, 102, 103] [84, 85, 86, 87, 88, 89, 0, 1, 2, 3, 4, 5, 6, 7, 8, 9, 10, 11, 12, 13, 14, 15, 16, 17, 18, 19, 20, 21, 22, 23, 24, 25, 26, 27, 28, 29, 30, 31, 32, 33, 34, 35, 36, 37, 38, 39, 40, 41, 42, 43, 44, 45, 46, 47, 90, 91, 92, 93, 94, 95, 96, 97, 98, 99, 100, 101, 102, 103, 48, 49, 50, 51, 52, 53, 54, 55, 56, 57, 58, 59, 60, 61, 62, 63, 64, 65, 66, 67, 68, 69, 70, 71, 72, 73, 74, 75, 76, 77, 78, 79, 80, 81, 82, 83] rfl (Wr := wX3 q (ad 1) (z18.2.1 1) ++ (wX3 q (ad 2) (z18.2.1 2) ++ (wX3 q (ad 3) (z18.2.1 3) ++ (wX3 q (ad 4) (z18.2.1 4) ++ (wX1 q (ad 7) (z18.2.1 7) ++ (wX4 q (ad 8) (z18.2.1 8) (ad 1 99) (ad 7 99) ++ (wX2 q (ad 9) (z18.2.1 9) ++ (wX2 q (ad 10) (z18.2.1 10) ++ (wX2 q (ad 11) (z18.2.1 11) ++ (wX2 q (ad 12) (z18.2.1 12) ++ wX6 q a z18.2.2)))))))))) rfl (by decide) (by decide) (by decide) (by decide) (fun _ => rfl) 0 rfl rfl rfl k_353 mX5_end ⟨rfl, rfl⟩ ⟨Nat.le_of_ble_eq_true rfl, Nat.le_of_ble_eq_true rfl⟩ rfl rfl (Nat.le_of_ble_eq_true rfl) dL_law_237 ⟨Nat.le_of_ble_eq_true rfl, Nat.le_of_ble_eq_true rfl⟩ (fun H13 locs13 hP hD hS13 => ?_)
            have hP13 : va_P D cls (wX5 q ad (z18.2.1 0) ++ (wX3 q (ad 1) (z18.2.1 1) ++ (wX3 q (ad 2) (z18.2.1 2) ++ (wX3 q (ad 3) (z18.2.1 3) ++ (wX3 q (ad 4) (z18.2.1 4) ++ (wX0 q (ad 5) y237.2 (ad 6 99) ++ (wX3 q (ad 6) (z18.2.1 6) ++ (wX1 q (ad 7) (z18.2.1 7) ++ (wX4 q (ad 8) (z18.2.1 8) (ad 1 99) (ad 7 99) ++ (wX2 q (ad 9) (z18.2.1 9) ++ (wX2 q (ad 10) (z18.2.1 10) ++ (wX2 q (ad 11) (z18.2.1 11) ++ (wX2 q (ad 12) (z18.2.1 12) ++ wX6 q a z18.2.2))))))))))))) H13 := hP
            have hD13 : va_D (fun z : Nat => s.heap.size ≤ z) (wX5 q ad (z18.2.1 0) ++ (wX3 q (ad 1) (z18.2.1 1) ++ (wX3 q (ad 2) (z18.2.1 2) ++ (wX3 q (ad 3) (z18.2.1 3) ++ (wX3 q (ad 4) (z18.2.1 4) ++ (wX0 q (ad 5) y237.2 (ad 6 99) ++ (wX3 q (ad 6) (z18.2.1 6) ++ (wX1 q (ad 7) (z18.2.1 7) ++ (wX4 q (ad 8) (z18.2.1 8) (ad 1 99) (ad 7 99) ++ (wX2 q (ad 9) (z18.2.1 9) ++ (wX2 q (ad 10) (z18.2.1 10) ++ (wX2 q (ad 11) (z18.2.1 11) ++ (wX2 q (ad 12) (z18.2.1 12) ++ wX6 q a z18.2.2))))))))))))) := hD
            clear hP hD hP3 hD3 hS3
            refine lv_aload_n hx hb dL_law_240 rfl (lv_at hl2 0 rfl) ?_
            refine lv_aload_n hx hb dL_law_241 rfl (lv_at hl2 2 rfl) ?_
            refine lv_iload_n hx hb dL_law_242 rfl (lv_at hl2 3 rfl) ?_
            refine lv_iconst (v := (1 : Int32)) hx hb dL_law_243 (by decide) ?_
            refine lv_iadd hx hb dL_law_244 ?_
            obtain ⟨h14, hm⟩ := ckd hm
            refine va_sld hx hb hX hbl hbA hS13 (inB_vp h14) dL_law_245 ?_
            obtain ⟨y246, hy246, hm⟩ := bn hm
            refine cVWi (As := [.int (xs ((z18.1 + (1 : Int32))).toNatClampNeg)]) (rest := [.int y237.1]) (Wn := fun (uu : SV) => wX5 q ad (z18.2.1 0) ++ (wX3 q (ad 1) (z18.2.1 1) ++ (wX3 q (ad 2) (z18.2.1 2) ++ (wX3 q (ad 3) (z18.2.1 3) ++ (wX3 q (ad 4) (z18.2.1 4) ++ (wX0 q (ad 5) y237.2 (ad 6 99) ++ (wX3 q (ad 6) (z18.2.1 6) ++ (wX1 q (ad 7) (z18.2.1 7) ++ (wX4 q (ad 8) (z18.2.1 8) (ad 1 99) (ad 7 99) ++ (wX2 q (ad 9) (z18.2.1 9) ++ (wX2 q (ad 10) (z18.2.1 10) ++ (wX2 q (ad 11) (z18.2.1 11) ++ (wX2 q (ad 12) (z18.2.1 12) ++ wX6 q a uu))))))))))))) X hP13 hD13 hS13 (fun _ h => h) hl2.1 (c_X6_end l D q H13.size a z18.2.2 (xs ((z18.1 + (1 : Int32))).toNatClampNeg) y246 hy246) [86, 87, 88, 89, 90, 91, 92, 93, 94, 95, 96, 97, 98, 99, 100, 101, 102, 103] [0, 1, 2, 3, 4, 5, 6, 7, 8, 9, 10, 11, 12, 13, 14, 15, 16, 17, 18, 19, 20, 21, 22, 23, 24, 25, 26, 27, 28, 29, 30, 31, 32, 33, 34, 35, 36, 37, 38, 39, 40, 41, 42, 43, 44, 45, 46, 47, 48, 49, 50, 51, 52, 53, 54, 55, 56, 57, 58, 59, 60, 61, 62, 63, 64, 65, 66, 67, 68, 69, 70, 71, 72, 73, 74, 75, 76, 77, 78, 79, 80, 81, 82, 83, 84, 85] [0, 1, 2, 3, 4, 5, 6, 7, 8, 9, 10, 11, 12, 13, 14, 15, 16, 17, 18, 19, 20, 21, 22, 23, 24, 25, 26, 27, 28, 29, 30, 31, 32, 33, 34, 35, 36, 37, 38, 39, 40, 41, 42, 43, 44, 45, 46, 47, 48, 49, 50, 51, 52, 53, 54, 55, 56, 57, 58, 59, 60, 61, 62, 63, 64, 65, 66, 67, 68, 69, 70, 71, 72, 73, 74, 75, 76, 77, 78, 79, 80, 81, 82, 83, 84, 85, 86, 87, 88, 89, 90, 91, 92, 93, 94, 95, 96, 97, 98, 99, 100, 101, 102, 103] rfl (Wr := wX5 q ad (z18.2.1 0) ++ (wX3 q (ad 1) (z18.2.1 1) ++ (wX3 q (ad 2) (z18.2.1 2) ++ (wX3 q (ad 3) (z18.2.1 3) ++ (wX3 q (ad 4) (z18.2.1 4) ++ (wX0 q (ad 5) y237.2 (ad 6 99) ++ (wX3 q (ad 6) (z18.2.1 6) ++ (wX1 q (ad 7) (z18.2.1 7) ++ (wX4 q (ad 8) (z18.2.1 8) (ad 1 99) (ad 7 99) ++ (wX2 q (ad 9) (z18.2.1 9) ++ (wX2 q (ad 10) (z18.2.1 10) ++ (wX2 q (ad 11) (z18.2.1 11) ++ wX2 q (ad 12) (z18.2.1 12))))))))))))) rfl (by decide) (by decide) (by decide) (by decide) (fun _ => rfl) 86 rfl rfl rfl k_996 mX6_end ⟨rfl, rfl⟩ ⟨Nat.le_of_ble_eq_true rfl, Nat.le_of_ble_eq_true rfl⟩ rfl rfl (Nat.le_of_ble_eq_true rfl) dL_law_246 ⟨Nat.le_of_ble_eq_true rfl, Nat.le_of_ble_eq_true rfl⟩ (fun H15 locs15 hP hD hS15 => ?_)
            have hP15 : va_P D cls (wX5 q ad (z18.2.1 0) ++ (wX3 q (ad 1) (z18.2.1 1) ++ (wX3 q (ad 2) (z18.2.1 2) ++ (wX3 q (ad 3) (z18.2.1 3) ++ (wX3 q (ad 4) (z18.2.1 4) ++ (wX0 q (ad 5) y237.2 (ad 6 99) ++ (wX3 q (ad 6) (z18.2.1 6) ++ (wX1 q (ad 7) (z18.2.1 7) ++ (wX4 q (ad 8) (z18.2.1 8) (ad 1 99) (ad 7 99) ++ (wX2 q (ad 9) (z18.2.1 9) ++ (wX2 q (ad 10) (z18.2.1 10) ++ (wX2 q (ad 11) (z18.2.1 11) ++ (wX2 q (ad 12) (z18.2.1 12) ++ wX6 q a y246.2))))))))))))) H15 := hP
            have hD15 : va_D (fun z : Nat => s.heap.size ≤ z) (wX5 q ad (z18.2.1 0) ++ (wX3 q (ad 1) (z18.2.1 1) ++ (wX3 q (ad 2) (z18.2.1 2) ++ (wX3 q (ad 3) (z18.2.1 3) ++ (wX3 q (ad 4) (z18.2.1 4) ++ (wX0 q (ad 5) y237.2 (ad 6 99) ++ (wX3 q (ad 6) (z18.2.1 6) ++ (wX1 q (ad 7) (z18.2.1 7) ++ (wX4 q (ad 8) (z18.2.1 8) (ad 1 99) (ad 7 99) ++ (wX2 q (ad 9) (z18.2.1 9) ++ (wX2 q (ad 10) (z18.2.1 10) ++ (wX2 q (ad 11) (z18.2.1 11) ++ (wX2 q (ad 12) (z18.2.1 12) ++ wX6 q a y246.2))))))))))))) := hD
            clear hP hD hP13 hD13 hS13
            refine lv_icmp_eq (tgt := 1367) hx hb dL_law_249 (by decide) (fun c249 => ?_) (fun c249 => ?_)
            · replace hm := tp hm c249
              refine lv_iinc (v := (z18.1 + (5 : Int32))) (lv' := [(3, .int (z18.1 + (5 : Int32))), (2, .ref (a 99)), (1, .ref (ad 0 99)), (0, .ref b)]) hx hb dL_law_1367 hl2 (k := 3) rfl rfl (by decide) rfl (fun ls16 hl16 => ?_)
              clear hl2
              refine lv_goto (tgt := 18) hx hb dL_law_1370 (by decide) ?_
              cases hm
              exact ih18 ((z18.1 + (5 : Int32)), (mkG (z18.2.1 0) (z18.2.1 1) (z18.2.1 2) (z18.2.1 3) (z18.2.1 4) y237.2 (z18.2.1 6) (z18.2.1 7) (z18.2.1 8) (z18.2.1 9) (z18.2.1 10) (z18.2.1 11) (z18.2.1 12)), y246.2) ρ18 hz18 hK18 _ _ hP15 hD15 hS15 _ (lv_sub hl16 [1, 2, 3, 0] rfl)
            · replace hm := tn hm c249
              refine lv_iconst (v := (0 : Int32)) hx hb dL_law_252 (by decide) ?_
              cases hm
              cases hz18
              have hm : (some (0 : Int32) : Option Int32) = some (1 : Int32) := hK18
              exact absurd (Option.some.inj hm) (by decide)
          · replace hm := tn hm c32_1
            by_cases c32_2 : ((xs (z18.1).toNatClampNeg) &&& (63 : Int32)) = (2 : Int32)
            · replace hm := tp hm c32_2
              refine lv_tableIn (off := 222) (tgt := 254) hx hb dL_law_32 (by rw [c32_2]; decide) (by rw [c32_2]; decide) (by rw [c32_2]; rfl) (by decide) ?_
              refine lv_aload_n hx hb dL_law_254 rfl (lv_at hl2 1 rfl) ?_
              obtain ⟨y255, hy255, hm⟩ := bn hm
              refine cVWTi (As := []) (rest := []) (Wn := fun (uu : SV × SV × SV × SV × SV) => wX5 q ad uu.1 ++ (wX3 q (ad 1) uu.2.1 ++ (wX3 q (ad 2) (z18.2.1 2) ++ (wX3 q (ad 3) (z18.2.1 3) ++ (wX3 q (ad 4) (z18.2.1 4) ++ (wX0 q (ad 5) uu.2.2.1 (ad 6 99) ++ (wX3 q (ad 6) uu.2.2.2.1 ++ (wX1 q (ad 7) uu.2.2.2.2 ++ (wX4 q (ad 8) (z18.2.1 8) (ad 1 99) (ad 7 99) ++ (wX2 q (ad 9) (z18.2.1 9) ++ (wX2 q (ad 10) (z18.2.1 10) ++ (wX2 q (ad 11) (z18.2.1 11) ++ (wX2 q (ad 12) (z18.2.1 12) ++ wX6 q a z18.2.2))))))))))))) X hE hR' hP3 hD3 hS3 (fun _ h => h) hl2.1 (c_X5_text l D q H3.size aK aV ad (z18.2.1 0) (z18.2.1 1) (z18.2.1 5) (z18.2.1 6) (z18.2.1 7) y255 hy255) [0, 1, 2, 3, 4, 5, 6, 7, 8, 9, 10, 11, 12, 13, 14, 15, 16, 17, 54, 55, 56, 57, 58, 59, 60, 61, 62, 63, 64, 65, 66, 67, 68, 69, 70, 71] [18, 19, 20, 21, 22, 23, 24, 25, 26, 27, 28, 29, 30, 31, 32, 33, 34, 35, 36, 37, 38, 39, 40, 41, 42, 43, 44, 45, 46, 47, 48, 49, 50, 51, 52, 53, 72, 73, 74, 75, 76, 77, 78, 79, 80, 81, 82, 83, 84, 85, 86, 87, 88, 89, 90, 91, 92, 93, 94, 95, 96, 97, 98, 99, 100, 101, 102, 103] [68, 69, 70, 71, 72, 73, 74, 75, 76, 77, 78, 79, 80, 81, 82, 83, 84, 85, 0, 1, 2, 3, 4, 5, 6, 7, 8, 9, 10, 11, 12, 13, 14, 15, 16, 17, 18, 19, 20, 21, 22, 23, 24, 25, 26, 27, 28, 29, 30, 31, 32, 33, 34, 35, 86, 87, 88, 89, 90, 91, 92, 93, 94, 95, 96, 97, 98, 99, 100, 101, 102, 103, 36, 37, 38, 39, 40, 41, 42, 43, 44, 45, 46, 47, 48, 49, 50, 51, 52, 53, 54, 55, 56, 57, 58, 59, 60, 61, 62, 63, 64, 65, 66, 67] rfl (Wr := wX3 q (ad 2) (z18.2.1 2) ++ (wX3 q (ad 3) (z18.2.1 3) ++ (wX3 q (ad 4) (z18.2.1 4) ++ (wX4 q (ad 8) (z18.2.1 8) (ad 1 99) (ad 7 99) ++ (wX2 q (ad 9) (z18.2.1 9) ++ (wX2 q (ad 10) (z18.2.1 10) ++ (wX2 q (ad 11) (z18.2.1 11) ++ (wX2 q (ad 12) (z18.2.1 12) ++ wX6 q a z18.2.2)))))))) rfl (by decide) (by decide) (by decide) (by decide) (fun _ => rfl) 0 rfl rfl rfl k_357 mX5_text ⟨rfl, rfl⟩ ⟨Nat.le_of_ble_eq_true rfl, Nat.le_of_ble_eq_true rfl⟩ rfl rfl (Nat.le_of_ble_eq_true rfl) dL_law_255 ⟨Nat.le_of_ble_eq_true rfl, Nat.le_of_ble_eq_true rfl⟩ (fun H17 locs17 hP hD hS17 => ?_)
              have hP17 : va_P D cls (wX5 q ad y255.2.1 ++ (wX3 q (ad 1) y255.2.2.1 ++ (wX3 q (ad 2) (z18.2.1 2) ++ (wX3 q (ad 3) (z18.2.1 3) ++ (wX3 q (ad 4) (z18.2.1 4) ++ (wX0 q (ad 5) y255.2.2.2.1 (ad 6 99) ++ (wX3 q (ad 6) y255.2.2.2.2.1 ++ (wX1 q (ad 7) y255.2.2.2.2.2 ++ (wX4 q (ad 8) (z18.2.1 8) (ad 1 99) (ad 7 99) ++ (wX2 q (ad 9) (z18.2.1 9) ++ (wX2 q (ad 10) (z18.2.1 10) ++ (wX2 q (ad 11) (z18.2.1 11) ++ (wX2 q (ad 12) (z18.2.1 12) ++ wX6 q a z18.2.2))))))))))))) H17 := hP
              have hD17 : va_D (fun z : Nat => s.heap.size ≤ z) (wX5 q ad y255.2.1 ++ (wX3 q (ad 1) y255.2.2.1 ++ (wX3 q (ad 2) (z18.2.1 2) ++ (wX3 q (ad 3) (z18.2.1 3) ++ (wX3 q (ad 4) (z18.2.1 4) ++ (wX0 q (ad 5) y255.2.2.2.1 (ad 6 99) ++ (wX3 q (ad 6) y255.2.2.2.2.1 ++ (wX1 q (ad 7) y255.2.2.2.2.2 ++ (wX4 q (ad 8) (z18.2.1 8) (ad 1 99) (ad 7 99) ++ (wX2 q (ad 9) (z18.2.1 9) ++ (wX2 q (ad 10) (z18.2.1 10) ++ (wX2 q (ad 11) (z18.2.1 11) ++ (wX2 q (ad 12) (z18.2.1 12) ++ wX6 q a z18.2.2))))))))))))) := hD
              clear hP hD hP3 hD3 hS3
              refine lv_aload_n hx hb dL_law_258 rfl (lv_at hl2 0 rfl) ?_
              obtain ⟨y259, hy259, hm⟩ := bn hm
              refine cVWi (As := []) (rest := [.int y255.1]) (Wn := fun (uu : SV) => wX5 q ad y255.2.1 ++ (wX3 q (ad 1) y255.2.2.1 ++ (wX3 q (ad 2) (z18.2.1 2) ++ (wX3 q (ad 3) (z18.2.1 3) ++ (wX3 q (ad 4) (z18.2.1 4) ++ (wX0 q (ad 5) y255.2.2.2.1 (ad 6 99) ++ (wX3 q (ad 6) y255.2.2.2.2.1 ++ (wX1 q (ad 7) y255.2.2.2.2.2 ++ (wX4 q (ad 8) (z18.2.1 8) (ad 1 99) (ad 7 99) ++ (wX2 q (ad 9) (z18.2.1 9) ++ (wX2 q (ad 10) (z18.2.1 10) ++ (wX2 q (ad 11) (z18.2.1 11) ++ (wX2 q (ad 12) (z18.2.1 12) ++ wX6 q a uu))))))))))))) X hP17 hD17 hS17 (fun _ h => h) hl2.1 (c_X6_text l D q H17.size a z18.2.2 y259 hy259) [86, 87, 88, 89, 90, 91, 92, 93, 94, 95, 96, 97, 98, 99, 100, 101, 102, 103] [0, 1, 2, 3, 4, 5, 6, 7, 8, 9, 10, 11, 12, 13, 14, 15, 16, 17, 18, 19, 20, 21, 22, 23, 24, 25, 26, 27, 28, 29, 30, 31, 32, 33, 34, 35, 36, 37, 38, 39, 40, 41, 42, 43, 44, 45, 46, 47, 48, 49, 50, 51, 52, 53, 54, 55, 56, 57, 58, 59, 60, 61, 62, 63, 64, 65, 66, 67, 68, 69, 70, 71, 72, 73, 74, 75, 76, 77, 78, 79, 80, 81, 82, 83, 84, 85] [0, 1, 2, 3, 4, 5, 6, 7, 8, 9, 10, 11, 12, 13, 14, 15, 16, 17, 18, 19, 20, 21, 22, 23, 24, 25, 26, 27, 28, 29, 30, 31, 32, 33, 34, 35, 36, 37, 38, 39, 40, 41, 42, 43, 44, 45, 46, 47, 48, 49, 50, 51, 52, 53, 54, 55, 56, 57, 58, 59, 60, 61, 62, 63, 64, 65, 66, 67, 68, 69, 70, 71, 72, 73, 74, 75, 76, 77, 78, 79, 80, 81, 82, 83, 84, 85, 86, 87, 88, 89, 90, 91, 92, 93, 94, 95, 96, 97, 98, 99, 100, 101, 102, 103] rfl (Wr := wX5 q ad y255.2.1 ++ (wX3 q (ad 1) y255.2.2.1 ++ (wX3 q (ad 2) (z18.2.1 2) ++ (wX3 q (ad 3) (z18.2.1 3) ++ (wX3 q (ad 4) (z18.2.1 4) ++ (wX0 q (ad 5) y255.2.2.2.1 (ad 6 99) ++ (wX3 q (ad 6) y255.2.2.2.2.1 ++ (wX1 q (ad 7) y255.2.2.2.2.2 ++ (wX4 q (ad 8) (z18.2.1 8) (ad 1 99) (ad 7 99) ++ (wX2 q (ad 9) (z18.2.1 9) ++ (wX2 q (ad 10) (z18.2.1 10) ++ (wX2 q (ad 11) (z18.2.1 11) ++ wX2 q (ad 12) (z18.2.1 12))))))))))))) rfl (by decide) (by decide) (by decide) (by decide) (fun _ => rfl) 86 rfl rfl rfl k_1000 mX6_text ⟨rfl, rfl⟩ ⟨Nat.le_of_ble_eq_true rfl, Nat.le_of_ble_eq_true rfl⟩ rfl rfl (Nat.le_of_ble_eq_true rfl) dL_law_259 ⟨Nat.le_of_ble_eq_true rfl, Nat.le_of_ble_eq_true rfl⟩ (fun H18 locs18 hP hD hS18 => ?_)
              have hP18 : va_P D cls (wX5 q ad y255.2.1 ++ (wX3 q (ad 1) y255.2.2.1 ++ (wX3 q (ad 2) (z18.2.1 2) ++ (wX3 q (ad 3) (z18.2.1 3) ++ (wX3 q (ad 4) (z18.2.1 4) ++ (wX0 q (ad 5) y255.2.2.2.1 (ad 6 99) ++ (wX3 q (ad 6) y255.2.2.2.2.1 ++ (wX1 q (ad 7) y255.2.2.2.2.2 ++ (wX4 q (ad 8) (z18.2.1 8) (ad 1 99) (ad 7 99) ++ (wX2 q (ad 9) (z18.2.1 9) ++ (wX2 q (ad 10) (z18.2.1 10) ++ (wX2 q (ad 11) (z18.2.1 11) ++ (wX2 q (ad 12) (z18.2.1 12) ++ wX6 q a y259.2))))))))))))) H18 := hP
              have hD18 : va_D (fun z : Nat => s.heap.size ≤ z) (wX5 q ad y255.2.1 ++ (wX3 q (ad 1) y255.2.2.1 ++ (wX3 q (ad 2) (z18.2.1 2) ++ (wX3 q (ad 3) (z18.2.1 3) ++ (wX3 q (ad 4) (z18.2.1 4) ++ (wX0 q (ad 5) y255.2.2.2.1 (ad 6 99) ++ (wX3 q (ad 6) y255.2.2.2.2.1 ++ (wX1 q (ad 7) y255.2.2.2.2.2 ++ (wX4 q (ad 8) (z18.2.1 8) (ad 1 99) (ad 7 99) ++ (wX2 q (ad 9) (z18.2.1 9) ++ (wX2 q (ad 10) (z18.2.1 10) ++ (wX2 q (ad 11) (z18.2.1 11) ++ (wX2 q (ad 12) (z18.2.1 12) ++ wX6 q a y259.2))))))))))))) := hD
              clear hP hD hP17 hD17 hS17
              refine lv_icmp_eq (tgt := 1367) hx hb dL_law_262 (by decide) (fun c262 => ?_) (fun c262 => ?_)
              · replace hm := tp hm c262
                refine lv_iinc (v := (z18.1 + (5 : Int32))) (lv' := [(3, .int (z18.1 + (5 : Int32))), (2, .ref (a 99)), (1, .ref (ad 0 99)), (0, .ref b)]) hx hb dL_law_1367 hl2 (k := 3) rfl rfl (by decide) rfl (fun ls19 hl19 => ?_)
                clear hl2
                refine lv_goto (tgt := 18) hx hb dL_law_1370 (by decide) ?_
                cases hm
                exact ih18 ((z18.1 + (5 : Int32)), (mkG y255.2.1 y255.2.2.1 (z18.2.1 2) (z18.2.1 3) (z18.2.1 4) y255.2.2.2.1 y255.2.2.2.2.1 y255.2.2.2.2.2 (z18.2.1 8) (z18.2.1 9) (z18.2.1 10) (z18.2.1 11) (z18.2.1 12)), y259.2) ρ18 hz18 hK18 _ _ hP18 hD18 hS18 _ (lv_sub hl19 [1, 2, 3, 0] rfl)
              · replace hm := tn hm c262
                refine lv_iconst (v := (0 : Int32)) hx hb dL_law_265 (by decide) ?_
                cases hm
                cases hz18
                have hm : (some (0 : Int32) : Option Int32) = some (1 : Int32) := hK18
                exact absurd (Option.some.inj hm) (by decide)
            · replace hm := tn hm c32_2
              by_cases c32_3 : ((xs (z18.1).toNatClampNeg) &&& (63 : Int32)) = (3 : Int32)
              · replace hm := tp hm c32_3
                refine lv_tableIn (off := 235) (tgt := 267) hx hb dL_law_32 (by rw [c32_3]; decide) (by rw [c32_3]; decide) (by rw [c32_3]; rfl) (by decide) ?_
                refine lv_aload_n hx hb dL_law_267 rfl (lv_at hl2 1 rfl) ?_
                obtain ⟨y268, hy268, hm⟩ := bn hm
                refine cVRi (As := []) (rest := []) X hP3 hl2.1 (c_X5_fault l D q ad (z18.2.1 0) (z18.2.1 5) (z18.2.1 6) y268 hy268) [0, 1, 2, 3, 4, 5, 54, 55, 56, 57, 58, 59, 60, 61, 62, 63, 64, 65, 66, 67] rfl 0 rfl rfl rfl k_514 mX5_fault ⟨rfl, rfl⟩ ⟨Nat.le_of_ble_eq_true rfl, Nat.le_of_ble_eq_true rfl⟩ rfl rfl (Nat.le_of_ble_eq_true rfl) dL_law_268 ⟨Nat.le_of_ble_eq_true rfl, Nat.le_of_ble_eq_true rfl⟩ ?_
                refine lv_aload_n hx hb dL_law_271 rfl (lv_at hl2 0 rfl) ?_
                obtain ⟨y272, hy272, hm⟩ := bn hm
                refine cVRi (As := []) (rest := [.int y268]) X hP3 hl2.1 (c_X6_fault l D q a z18.2.2 y272 hy272) [86, 87, 88, 89, 90, 91, 92, 93, 94, 95, 96, 97, 98, 99, 100, 101, 102, 103] rfl 86 rfl rfl rfl k_1070 mX6_fault ⟨rfl, rfl⟩ ⟨Nat.le_of_ble_eq_true rfl, Nat.le_of_ble_eq_true rfl⟩ rfl rfl (Nat.le_of_ble_eq_true rfl) dL_law_272 ⟨Nat.le_of_ble_eq_true rfl, Nat.le_of_ble_eq_true rfl⟩ ?_
                refine lv_icmp_eq (tgt := 1367) hx hb dL_law_275 (by decide) (fun c275 => ?_) (fun c275 => ?_)
                · replace hm := tp hm c275
                  refine lv_iinc (v := (z18.1 + (5 : Int32))) (lv' := [(3, .int (z18.1 + (5 : Int32))), (2, .ref (a 99)), (1, .ref (ad 0 99)), (0, .ref b)]) hx hb dL_law_1367 hl2 (k := 3) rfl rfl (by decide) rfl (fun ls20 hl20 => ?_)
                  clear hl2
                  refine lv_goto (tgt := 18) hx hb dL_law_1370 (by decide) ?_
                  cases hm
                  exact ih18 ((z18.1 + (5 : Int32)), z18.2.1, z18.2.2) ρ18 hz18 hK18 _ _ hP3 hD3 hS3 _ (lv_sub hl20 [1, 2, 3, 0] rfl)
                · replace hm := tn hm c275
                  refine lv_iconst (v := (0 : Int32)) hx hb dL_law_278 (by decide) ?_
                  cases hm
                  cases hz18
                  have hm : (some (0 : Int32) : Option Int32) = some (1 : Int32) := hK18
                  exact absurd (Option.some.inj hm) (by decide)
              · replace hm := tn hm c32_3
                by_cases c32_4 : ((xs (z18.1).toNatClampNeg) &&& (63 : Int32)) = (4 : Int32)
                · replace hm := tp hm c32_4
                  refine lv_tableIn (off := 248) (tgt := 280) hx hb dL_law_32 (by rw [c32_4]; decide) (by rw [c32_4]; decide) (by rw [c32_4]; rfl) (by decide) ?_
                  refine lv_aload_n hx hb dL_law_280 rfl (lv_at hl2 1 rfl) ?_
                  refine lv_aload_n hx hb dL_law_281 rfl (lv_at hl2 2 rfl) ?_
                  refine lv_iload_n hx hb dL_law_282 rfl (lv_at hl2 3 rfl) ?_
                  refine lv_iconst (v := (1 : Int32)) hx hb dL_law_283 (by decide) ?_
                  refine lv_iadd hx hb dL_law_284 ?_
                  obtain ⟨h21, hm⟩ := ckd hm
                  refine va_sld hx hb hX hbl hbA hS3 (inB_vp h21) dL_law_285 ?_
                  obtain ⟨y286, hy286, hm⟩ := bn hm
                  refine cVRi (As := [.int (xs ((z18.1 + (1 : Int32))).toNatClampNeg)]) (rest := []) X hP3 hl2.1 (c_X5_rule l D q ad (z18.2.1 0) (z18.2.1 1) (xs ((z18.1 + (1 : Int32))).toNatClampNeg) y286 hy286) [0, 1, 2, 3, 4, 5, 6, 7, 8, 9, 10, 11, 12, 13, 14, 15, 16, 17] rfl 0 rfl rfl rfl k_518 mX5_rule ⟨rfl, rfl⟩ ⟨Nat.le_of_ble_eq_true rfl, Nat.le_of_ble_eq_true rfl⟩ rfl rfl (Nat.le_of_ble_eq_true rfl) dL_law_286 ⟨Nat.le_of_ble_eq_true rfl, Nat.le_of_ble_eq_true rfl⟩ ?_
                  refine lv_aload_n hx hb dL_law_289 rfl (lv_at hl2 0 rfl) ?_
                  refine lv_aload_n hx hb dL_law_290 rfl (lv_at hl2 2 rfl) ?_
                  refine lv_iload_n hx hb dL_law_291 rfl (lv_at hl2 3 rfl) ?_
                  refine lv_iconst (v := (1 : Int32)) hx hb dL_law_292 (by decide) ?_
                  refine lv_iadd hx hb dL_law_293 ?_
                  obtain ⟨h22, hm⟩ := ckd hm
                  refine va_sld hx hb hX hbl hbA hS3 (inB_vp h22) dL_law_294 ?_
                  obtain ⟨y295, hy295, hm⟩ := bn hm
                  refine cVRi (As := [.int (xs ((z18.1 + (1 : Int32))).toNatClampNeg)]) (rest := [.int y286]) X hP3 hl2.1 (c_X6_rule l D q a z18.2.2 (xs ((z18.1 + (1 : Int32))).toNatClampNeg) y295 hy295) [86, 87, 88, 89, 90, 91, 92, 93, 94, 95, 96, 97, 98, 99, 100, 101, 102, 103] rfl 86 rfl rfl rfl k_1074 mX6_rule ⟨rfl, rfl⟩ ⟨Nat.le_of_ble_eq_true rfl, Nat.le_of_ble_eq_true rfl⟩ rfl rfl (Nat.le_of_ble_eq_true rfl) dL_law_295 ⟨Nat.le_of_ble_eq_true rfl, Nat.le_of_ble_eq_true rfl⟩ ?_
                  refine lv_icmp_eq (tgt := 1367) hx hb dL_law_298 (by decide) (fun c298 => ?_) (fun c298 => ?_)
                  · replace hm := tp hm c298
                    refine lv_iinc (v := (z18.1 + (5 : Int32))) (lv' := [(3, .int (z18.1 + (5 : Int32))), (2, .ref (a 99)), (1, .ref (ad 0 99)), (0, .ref b)]) hx hb dL_law_1367 hl2 (k := 3) rfl rfl (by decide) rfl (fun ls23 hl23 => ?_)
                    clear hl2
                    refine lv_goto (tgt := 18) hx hb dL_law_1370 (by decide) ?_
                    cases hm
                    exact ih18 ((z18.1 + (5 : Int32)), z18.2.1, z18.2.2) ρ18 hz18 hK18 _ _ hP3 hD3 hS3 _ (lv_sub hl23 [1, 2, 3, 0] rfl)
                  · replace hm := tn hm c298
                    refine lv_iconst (v := (0 : Int32)) hx hb dL_law_301 (by decide) ?_
                    cases hm
                    cases hz18
                    have hm : (some (0 : Int32) : Option Int32) = some (1 : Int32) := hK18
                    exact absurd (Option.some.inj hm) (by decide)
                · replace hm := tn hm c32_4
                  by_cases c32_5 : ((xs (z18.1).toNatClampNeg) &&& (63 : Int32)) = (5 : Int32)
                  · replace hm := tp hm c32_5
                    refine lv_tableIn (off := 271) (tgt := 303) hx hb dL_law_32 (by rw [c32_5]; decide) (by rw [c32_5]; decide) (by rw [c32_5]; rfl) (by decide) ?_
                    refine lv_aload_n hx hb dL_law_303 rfl (lv_at hl2 1 rfl) ?_
                    refine lv_aload_n hx hb dL_law_304 rfl (lv_at hl2 2 rfl) ?_
                    refine lv_iload_n hx hb dL_law_305 rfl (lv_at hl2 3 rfl) ?_
                    refine lv_iconst (v := (1 : Int32)) hx hb dL_law_306 (by decide) ?_
                    refine lv_iadd hx hb dL_law_307 ?_
                    obtain ⟨h24, hm⟩ := ckd hm
                    refine va_sld hx hb hX hbl hbA hS3 (inB_vp h24) dL_law_308 ?_
                    refine lv_aload_n hx hb dL_law_309 rfl (lv_at hl2 2 rfl) ?_
                    refine lv_iload_n hx hb dL_law_310 rfl (lv_at hl2 3 rfl) ?_
                    refine lv_iconst (v := (2 : Int32)) hx hb dL_law_311 (by decide) ?_
                    refine lv_iadd hx hb dL_law_312 ?_
                    obtain ⟨h25, hm⟩ := ckd hm
                    refine va_sld hx hb hX hbl hbA hS3 (inB_vp h25) dL_law_313 ?_
                    obtain ⟨y314, hy314, hm⟩ := bn hm
                    refine cVRi (As := [.int (xs ((z18.1 + (1 : Int32))).toNatClampNeg), .int (xs ((z18.1 + (2 : Int32))).toNatClampNeg)]) (rest := []) X hP3 hl2.1 (c_X5_part l D q ad (z18.2.1 0) (z18.2.1 1) (xs ((z18.1 + (1 : Int32))).toNatClampNeg) (xs ((z18.1 + (2 : Int32))).toNatClampNeg) y314 hy314) [0, 1, 2, 3, 4, 5, 6, 7, 8, 9, 10, 11, 12, 13, 14, 15, 16, 17] rfl 0 rfl rfl rfl k_534 mX5_part ⟨rfl, rfl⟩ ⟨Nat.le_of_ble_eq_true rfl, Nat.le_of_ble_eq_true rfl⟩ rfl rfl (Nat.le_of_ble_eq_true rfl) dL_law_314 ⟨Nat.le_of_ble_eq_true rfl, Nat.le_of_ble_eq_true rfl⟩ ?_
                    refine lv_aload_n hx hb dL_law_317 rfl (lv_at hl2 0 rfl) ?_
                    refine lv_aload_n hx hb dL_law_318 rfl (lv_at hl2 2 rfl) ?_
                    refine lv_iload_n hx hb dL_law_319 rfl (lv_at hl2 3 rfl) ?_
                    refine lv_iconst (v := (1 : Int32)) hx hb dL_law_320 (by decide) ?_
                    refine lv_iadd hx hb dL_law_321 ?_
                    obtain ⟨h26, hm⟩ := ckd hm
                    refine va_sld hx hb hX hbl hbA hS3 (inB_vp h26) dL_law_322 ?_
                    refine lv_aload_n hx hb dL_law_323 rfl (lv_at hl2 2 rfl) ?_
                    refine lv_iload_n hx hb dL_law_324 rfl (lv_at hl2 3 rfl) ?_
                    refine lv_iconst (v := (2 : Int32)) hx hb dL_law_325 (by decide) ?_
                    refine lv_iadd hx hb dL_law_326 ?_
                    obtain ⟨h27, hm⟩ := ckd hm
                    refine va_sld hx hb hX hbl hbA hS3 (inB_vp h27) dL_law_327 ?_
                    obtain ⟨y328, hy328, hm⟩ := bn hm
                    refine cVRi (As := [.int (xs ((z18.1 + (1 : Int32))).toNatClampNeg), .int (xs ((z18.1 + (2 : Int32))).toNatClampNeg)]) (rest := [.int y314]) X hP3 hl2.1 (c_X6_part l D q a z18.2.2 (xs ((z18.1 + (1 : Int32))).toNatClampNeg) (xs ((z18.1 + (2 : Int32))).toNatClampNeg) y328 hy328) [86, 87, 88, 89, 90, 91, 92, 93, 94, 95, 96, 97, 98, 99, 100, 101, 102, 103] rfl 86 rfl rfl rfl k_1082 mX6_part ⟨rfl, rfl⟩ ⟨Nat.le_of_ble_eq_true rfl, Nat.le_of_ble_eq_true rfl⟩ rfl rfl (Nat.le_of_ble_eq_true rfl) dL_law_328 ⟨Nat.le_of_ble_eq_true rfl, Nat.le_of_ble_eq_true rfl⟩ ?_
                    refine lv_icmp_eq (tgt := 1367) hx hb dL_law_331 (by decide) (fun c331 => ?_) (fun c331 => ?_)
                    · replace hm := tp hm c331
                      refine lv_iinc (v := (z18.1 + (5 : Int32))) (lv' := [(3, .int (z18.1 + (5 : Int32))), (2, .ref (a 99)), (1, .ref (ad 0 99)), (0, .ref b)]) hx hb dL_law_1367 hl2 (k := 3) rfl rfl (by decide) rfl (fun ls28 hl28 => ?_)
                      clear hl2
                      refine lv_goto (tgt := 18) hx hb dL_law_1370 (by decide) ?_
                      cases hm
                      exact ih18 ((z18.1 + (5 : Int32)), z18.2.1, z18.2.2) ρ18 hz18 hK18 _ _ hP3 hD3 hS3 _ (lv_sub hl28 [1, 2, 3, 0] rfl)
                    · replace hm := tn hm c331
                      refine lv_iconst (v := (0 : Int32)) hx hb dL_law_334 (by decide) ?_
                      cases hm
                      cases hz18
                      have hm : (some (0 : Int32) : Option Int32) = some (1 : Int32) := hK18
                      exact absurd (Option.some.inj hm) (by decide)
                  · replace hm := tn hm c32_5
                    by_cases c32_6 : ((xs (z18.1).toNatClampNeg) &&& (63 : Int32)) = (6 : Int32)
                    · replace hm := tp hm c32_6
                      refine lv_tableIn (off := 304) (tgt := 336) hx hb dL_law_32 (by rw [c32_6]; decide) (by rw [c32_6]; decide) (by rw [c32_6]; rfl) (by decide) ?_
                      refine lv_aload_n hx hb dL_law_336 rfl (lv_at hl2 1 rfl) ?_
                      refine lv_aload_n hx hb dL_law_337 rfl (lv_at hl2 2 rfl) ?_
                      refine lv_iload_n hx hb dL_law_338 rfl (lv_at hl2 3 rfl) ?_
                      refine lv_iconst (v := (1 : Int32)) hx hb dL_law_339 (by decide) ?_
                      refine lv_iadd hx hb dL_law_340 ?_
                      obtain ⟨h29, hm⟩ := ckd hm
                      refine va_sld hx hb hX hbl hbA hS3 (inB_vp h29) dL_law_341 ?_
                      refine lv_aload_n hx hb dL_law_342 rfl (lv_at hl2 2 rfl) ?_
                      refine lv_iload_n hx hb dL_law_343 rfl (lv_at hl2 3 rfl) ?_
                      refine lv_iconst (v := (2 : Int32)) hx hb dL_law_344 (by decide) ?_
                      refine lv_iadd hx hb dL_law_345 ?_
                      obtain ⟨h30, hm⟩ := ckd hm
                      refine va_sld hx hb hX hbl hbA hS3 (inB_vp h30) dL_law_346 ?_
                      obtain ⟨y347, hy347, hm⟩ := bn hm
                      refine cVRi (As := [.int (xs ((z18.1 + (1 : Int32))).toNatClampNeg), .int (xs ((z18.1 + (2 : Int32))).toNatClampNeg)]) (rest := []) X hP3 hl2.1 (c_X5_layer l D q ad (z18.2.1 0) (z18.2.1 1) (xs ((z18.1 + (1 : Int32))).toNatClampNeg) (xs ((z18.1 + (2 : Int32))).toNatClampNeg) y347 hy347) [0, 1, 2, 3, 4, 5, 6, 7, 8, 9, 10, 11, 12, 13, 14, 15, 16, 17] rfl 0 rfl rfl rfl k_540 mX5_layer ⟨rfl, rfl⟩ ⟨Nat.le_of_ble_eq_true rfl, Nat.le_of_ble_eq_true rfl⟩ rfl rfl (Nat.le_of_ble_eq_true rfl) dL_law_347 ⟨Nat.le_of_ble_eq_true rfl, Nat.le_of_ble_eq_true rfl⟩ ?_
                      refine lv_aload_n hx hb dL_law_350 rfl (lv_at hl2 0 rfl) ?_
                      refine lv_aload_n hx hb dL_law_351 rfl (lv_at hl2 2 rfl) ?_
                      refine lv_iload_n hx hb dL_law_352 rfl (lv_at hl2 3 rfl) ?_
                      refine lv_iconst (v := (1 : Int32)) hx hb dL_law_353 (by decide) ?_
                      refine lv_iadd hx hb dL_law_354 ?_
                      obtain ⟨h31, hm⟩ := ckd hm
                      refine va_sld hx hb hX hbl hbA hS3 (inB_vp h31) dL_law_355 ?_
                      refine lv_aload_n hx hb dL_law_356 rfl (lv_at hl2 2 rfl) ?_
                      refine lv_iload_n hx hb dL_law_357 rfl (lv_at hl2 3 rfl) ?_
                      refine lv_iconst (v := (2 : Int32)) hx hb dL_law_358 (by decide) ?_
                      refine lv_iadd hx hb dL_law_359 ?_
                      obtain ⟨h32, hm⟩ := ckd hm
                      refine va_sld hx hb hX hbl hbA hS3 (inB_vp h32) dL_law_360 ?_
                      obtain ⟨y361, hy361, hm⟩ := bn hm
                      refine cVRi (As := [.int (xs ((z18.1 + (1 : Int32))).toNatClampNeg), .int (xs ((z18.1 + (2 : Int32))).toNatClampNeg)]) (rest := [.int y347]) X hP3 hl2.1 (c_X6_layer l D q a z18.2.2 (xs ((z18.1 + (1 : Int32))).toNatClampNeg) (xs ((z18.1 + (2 : Int32))).toNatClampNeg) y361 hy361) [86, 87, 88, 89, 90, 91, 92, 93, 94, 95, 96, 97, 98, 99, 100, 101, 102, 103] rfl 86 rfl rfl rfl k_1094 mX6_layer ⟨rfl, rfl⟩ ⟨Nat.le_of_ble_eq_true rfl, Nat.le_of_ble_eq_true rfl⟩ rfl rfl (Nat.le_of_ble_eq_true rfl) dL_law_361 ⟨Nat.le_of_ble_eq_true rfl, Nat.le_of_ble_eq_true rfl⟩ ?_
                      refine lv_icmp_eq (tgt := 1367) hx hb dL_law_364 (by decide) (fun c364 => ?_) (fun c364 => ?_)
                      · replace hm := tp hm c364
                        refine lv_iinc (v := (z18.1 + (5 : Int32))) (lv' := [(3, .int (z18.1 + (5 : Int32))), (2, .ref (a 99)), (1, .ref (ad 0 99)), (0, .ref b)]) hx hb dL_law_1367 hl2 (k := 3) rfl rfl (by decide) rfl (fun ls33 hl33 => ?_)
                        clear hl2
                        refine lv_goto (tgt := 18) hx hb dL_law_1370 (by decide) ?_
                        cases hm
                        exact ih18 ((z18.1 + (5 : Int32)), z18.2.1, z18.2.2) ρ18 hz18 hK18 _ _ hP3 hD3 hS3 _ (lv_sub hl33 [1, 2, 3, 0] rfl)
                      · replace hm := tn hm c364
                        refine lv_iconst (v := (0 : Int32)) hx hb dL_law_367 (by decide) ?_
                        cases hm
                        cases hz18
                        have hm : (some (0 : Int32) : Option Int32) = some (1 : Int32) := hK18
                        exact absurd (Option.some.inj hm) (by decide)
                    · replace hm := tn hm c32_6
                      by_cases c32_7 : ((xs (z18.1).toNatClampNeg) &&& (63 : Int32)) = (7 : Int32)
                      · replace hm := tp hm c32_7
                        refine lv_tableIn (off := 337) (tgt := 369) hx hb dL_law_32 (by rw [c32_7]; decide) (by rw [c32_7]; decide) (by rw [c32_7]; rfl) (by decide) ?_
                        refine lv_aload_n hx hb dL_law_369 rfl (lv_at hl2 1 rfl) ?_
                        refine lv_aload_n hx hb dL_law_370 rfl (lv_at hl2 2 rfl) ?_
                        refine lv_iload_n hx hb dL_law_371 rfl (lv_at hl2 3 rfl) ?_
                        refine lv_iconst (v := (1 : Int32)) hx hb dL_law_372 (by decide) ?_
                        refine lv_iadd hx hb dL_law_373 ?_
                        obtain ⟨h34, hm⟩ := ckd hm
                        refine va_sld hx hb hX hbl hbA hS3 (inB_vp h34) dL_law_374 ?_
                        refine lv_aload_n hx hb dL_law_375 rfl (lv_at hl2 2 rfl) ?_
                        refine lv_iload_n hx hb dL_law_376 rfl (lv_at hl2 3 rfl) ?_
                        refine lv_iconst (v := (2 : Int32)) hx hb dL_law_377 (by decide) ?_
                        refine lv_iadd hx hb dL_law_378 ?_
                        obtain ⟨h35, hm⟩ := ckd hm
                        refine va_sld hx hb hX hbl hbA hS3 (inB_vp h35) dL_law_379 ?_
                        obtain ⟨y380, hy380, hm⟩ := bn hm
                        refine cVRi (As := [.int (xs ((z18.1 + (1 : Int32))).toNatClampNeg), .int (xs ((z18.1 + (2 : Int32))).toNatClampNeg)]) (rest := []) X hP3 hl2.1 (c_X5_sitter l D q ad (z18.2.1 0) (z18.2.1 1) (xs ((z18.1 + (1 : Int32))).toNatClampNeg) (xs ((z18.1 + (2 : Int32))).toNatClampNeg) y380 hy380) [0, 1, 2, 3, 4, 5, 6, 7, 8, 9, 10, 11, 12, 13, 14, 15, 16, 17] rfl 0 rfl rfl rfl k_544 mX5_sitter ⟨rfl, rfl⟩ ⟨Nat.le_of_ble_eq_true rfl, Nat.le_of_ble_eq_true rfl⟩ rfl rfl (Nat.le_of_ble_eq_true rfl) dL_law_380 ⟨Nat.le_of_ble_eq_true rfl, Nat.le_of_ble_eq_true rfl⟩ ?_
                        refine lv_aload_n hx hb dL_law_383 rfl (lv_at hl2 0 rfl) ?_
                        refine lv_aload_n hx hb dL_law_384 rfl (lv_at hl2 2 rfl) ?_
                        refine lv_iload_n hx hb dL_law_385 rfl (lv_at hl2 3 rfl) ?_
                        refine lv_iconst (v := (1 : Int32)) hx hb dL_law_386 (by decide) ?_
                        refine lv_iadd hx hb dL_law_387 ?_
                        obtain ⟨h36, hm⟩ := ckd hm
                        refine va_sld hx hb hX hbl hbA hS3 (inB_vp h36) dL_law_388 ?_
                        refine lv_aload_n hx hb dL_law_389 rfl (lv_at hl2 2 rfl) ?_
                        refine lv_iload_n hx hb dL_law_390 rfl (lv_at hl2 3 rfl) ?_
                        refine lv_iconst (v := (2 : Int32)) hx hb dL_law_391 (by decide) ?_
                        refine lv_iadd hx hb dL_law_392 ?_
                        obtain ⟨h37, hm⟩ := ckd hm
                        refine va_sld hx hb hX hbl hbA hS3 (inB_vp h37) dL_law_393 ?_
                        obtain ⟨y394, hy394, hm⟩ := bn hm
                        refine cVRi (As := [.int (xs ((z18.1 + (1 : Int32))).toNatClampNeg), .int (xs ((z18.1 + (2 : Int32))).toNatClampNeg)]) (rest := [.int y380]) X hP3 hl2.1 (c_X6_sitter l D q a z18.2.2 (xs ((z18.1 + (1 : Int32))).toNatClampNeg) (xs ((z18.1 + (2 : Int32))).toNatClampNeg) y394 hy394) [86, 87, 88, 89, 90, 91, 92, 93, 94, 95, 96, 97, 98, 99, 100, 101, 102, 103] rfl 86 rfl rfl rfl k_1098 mX6_sitter ⟨rfl, rfl⟩ ⟨Nat.le_of_ble_eq_true rfl, Nat.le_of_ble_eq_true rfl⟩ rfl rfl (Nat.le_of_ble_eq_true rfl) dL_law_394 ⟨Nat.le_of_ble_eq_true rfl, Nat.le_of_ble_eq_true rfl⟩ ?_
                        refine lv_icmp_eq (tgt := 1367) hx hb dL_law_397 (by decide) (fun c397 => ?_) (fun c397 => ?_)
                        · replace hm := tp hm c397
                          refine lv_iinc (v := (z18.1 + (5 : Int32))) (lv' := [(3, .int (z18.1 + (5 : Int32))), (2, .ref (a 99)), (1, .ref (ad 0 99)), (0, .ref b)]) hx hb dL_law_1367 hl2 (k := 3) rfl rfl (by decide) rfl (fun ls38 hl38 => ?_)
                          clear hl2
                          refine lv_goto (tgt := 18) hx hb dL_law_1370 (by decide) ?_
                          cases hm
                          exact ih18 ((z18.1 + (5 : Int32)), z18.2.1, z18.2.2) ρ18 hz18 hK18 _ _ hP3 hD3 hS3 _ (lv_sub hl38 [1, 2, 3, 0] rfl)
                        · replace hm := tn hm c397
                          refine lv_iconst (v := (0 : Int32)) hx hb dL_law_400 (by decide) ?_
                          cases hm
                          cases hz18
                          have hm : (some (0 : Int32) : Option Int32) = some (1 : Int32) := hK18
                          exact absurd (Option.some.inj hm) (by decide)
                      · replace hm := tn hm c32_7
                        by_cases c32_8 : ((xs (z18.1).toNatClampNeg) &&& (63 : Int32)) = (8 : Int32)
                        · replace hm := tp hm c32_8
                          refine lv_tableIn (off := 370) (tgt := 402) hx hb dL_law_32 (by rw [c32_8]; decide) (by rw [c32_8]; decide) (by rw [c32_8]; rfl) (by decide) ?_
                          refine lv_aload_n hx hb dL_law_402 rfl (lv_at hl2 1 rfl) ?_
                          refine lv_aload_n hx hb dL_law_403 rfl (lv_at hl2 2 rfl) ?_
                          refine lv_iload_n hx hb dL_law_404 rfl (lv_at hl2 3 rfl) ?_
                          refine lv_iconst (v := (1 : Int32)) hx hb dL_law_405 (by decide) ?_
                          refine lv_iadd hx hb dL_law_406 ?_
                          obtain ⟨h39, hm⟩ := ckd hm
                          refine va_sld hx hb hX hbl hbA hS3 (inB_vp h39) dL_law_407 ?_
                          refine lv_aload_n hx hb dL_law_408 rfl (lv_at hl2 2 rfl) ?_
                          refine lv_iload_n hx hb dL_law_409 rfl (lv_at hl2 3 rfl) ?_
                          refine lv_iconst (v := (2 : Int32)) hx hb dL_law_410 (by decide) ?_
                          refine lv_iadd hx hb dL_law_411 ?_
                          obtain ⟨h40, hm⟩ := ckd hm
                          refine va_sld hx hb hX hbl hbA hS3 (inB_vp h40) dL_law_412 ?_
                          obtain ⟨y413, hy413, hm⟩ := bn hm
                          refine cVRi (As := [.int (xs ((z18.1 + (1 : Int32))).toNatClampNeg), .int (xs ((z18.1 + (2 : Int32))).toNatClampNeg)]) (rest := []) X hP3 hl2.1 (c_X5_bond l D q ad (z18.2.1 0) (z18.2.1 1) (xs ((z18.1 + (1 : Int32))).toNatClampNeg) (xs ((z18.1 + (2 : Int32))).toNatClampNeg) y413 hy413) [0, 1, 2, 3, 4, 5, 6, 7, 8, 9, 10, 11, 12, 13, 14, 15, 16, 17] rfl 0 rfl rfl rfl k_552 mX5_bond ⟨rfl, rfl⟩ ⟨Nat.le_of_ble_eq_true rfl, Nat.le_of_ble_eq_true rfl⟩ rfl rfl (Nat.le_of_ble_eq_true rfl) dL_law_413 ⟨Nat.le_of_ble_eq_true rfl, Nat.le_of_ble_eq_true rfl⟩ ?_
                          refine lv_aload_n hx hb dL_law_416 rfl (lv_at hl2 0 rfl) ?_
                          refine lv_aload_n hx hb dL_law_417 rfl (lv_at hl2 2 rfl) ?_
                          refine lv_iload_n hx hb dL_law_418 rfl (lv_at hl2 3 rfl) ?_
                          refine lv_iconst (v := (1 : Int32)) hx hb dL_law_419 (by decide) ?_
                          refine lv_iadd hx hb dL_law_420 ?_
                          obtain ⟨h41, hm⟩ := ckd hm
                          refine va_sld hx hb hX hbl hbA hS3 (inB_vp h41) dL_law_421 ?_
                          refine lv_aload_n hx hb dL_law_422 rfl (lv_at hl2 2 rfl) ?_
                          refine lv_iload_n hx hb dL_law_423 rfl (lv_at hl2 3 rfl) ?_
                          refine lv_iconst (v := (2 : Int32)) hx hb dL_law_424 (by decide) ?_
                          refine lv_iadd hx hb dL_law_425 ?_
                          obtain ⟨h42, hm⟩ := ckd hm
                          refine va_sld hx hb hX hbl hbA hS3 (inB_vp h42) dL_law_426 ?_
                          obtain ⟨y427, hy427, hm⟩ := bn hm
                          refine cVRi (As := [.int (xs ((z18.1 + (1 : Int32))).toNatClampNeg), .int (xs ((z18.1 + (2 : Int32))).toNatClampNeg)]) (rest := [.int y413]) X hP3 hl2.1 (c_X6_bond l D q a z18.2.2 (xs ((z18.1 + (1 : Int32))).toNatClampNeg) (xs ((z18.1 + (2 : Int32))).toNatClampNeg) y427 hy427) [86, 87, 88, 89, 90, 91, 92, 93, 94, 95, 96, 97, 98, 99, 100, 101, 102, 103] rfl 86 rfl rfl rfl k_1110 mX6_bond ⟨rfl, rfl⟩ ⟨Nat.le_of_ble_eq_true rfl, Nat.le_of_ble_eq_true rfl⟩ rfl rfl (Nat.le_of_ble_eq_true rfl) dL_law_427 ⟨Nat.le_of_ble_eq_true rfl, Nat.le_of_ble_eq_true rfl⟩ ?_
                          refine lv_icmp_eq (tgt := 1367) hx hb dL_law_430 (by decide) (fun c430 => ?_) (fun c430 => ?_)
                          · replace hm := tp hm c430
                            refine lv_iinc (v := (z18.1 + (5 : Int32))) (lv' := [(3, .int (z18.1 + (5 : Int32))), (2, .ref (a 99)), (1, .ref (ad 0 99)), (0, .ref b)]) hx hb dL_law_1367 hl2 (k := 3) rfl rfl (by decide) rfl (fun ls43 hl43 => ?_)
                            clear hl2
                            refine lv_goto (tgt := 18) hx hb dL_law_1370 (by decide) ?_
                            cases hm
                            exact ih18 ((z18.1 + (5 : Int32)), z18.2.1, z18.2.2) ρ18 hz18 hK18 _ _ hP3 hD3 hS3 _ (lv_sub hl43 [1, 2, 3, 0] rfl)
                          · replace hm := tn hm c430
                            refine lv_iconst (v := (0 : Int32)) hx hb dL_law_433 (by decide) ?_
                            cases hm
                            cases hz18
                            have hm : (some (0 : Int32) : Option Int32) = some (1 : Int32) := hK18
                            exact absurd (Option.some.inj hm) (by decide)
                        · replace hm := tn hm c32_8
                          by_cases c32_9 : ((xs (z18.1).toNatClampNeg) &&& (63 : Int32)) = (9 : Int32)
                          · replace hm := tp hm c32_9
                            refine lv_tableIn (off := 403) (tgt := 435) hx hb dL_law_32 (by rw [c32_9]; decide) (by rw [c32_9]; decide) (by rw [c32_9]; rfl) (by decide) ?_
                            refine lv_aload_n hx hb dL_law_435 rfl (lv_at hl2 1 rfl) ?_
                            refine lv_aload_n hx hb dL_law_436 rfl (lv_at hl2 2 rfl) ?_
                            refine lv_iload_n hx hb dL_law_437 rfl (lv_at hl2 3 rfl) ?_
                            refine lv_iconst (v := (1 : Int32)) hx hb dL_law_438 (by decide) ?_
                            refine lv_iadd hx hb dL_law_439 ?_
                            obtain ⟨h44, hm⟩ := ckd hm
                            refine va_sld hx hb hX hbl hbA hS3 (inB_vp h44) dL_law_440 ?_
                            obtain ⟨y441, hy441, hm⟩ := bn hm
                            refine cVRi (As := [.int (xs ((z18.1 + (1 : Int32))).toNatClampNeg)]) (rest := []) X hP3 hl2.1 (c_X5_forger l D q ad (z18.2.1 0) (z18.2.1 1) (xs ((z18.1 + (1 : Int32))).toNatClampNeg) y441 hy441) [0, 1, 2, 3, 4, 5, 6, 7, 8, 9, 10, 11, 12, 13, 14, 15, 16, 17] rfl 0 rfl rfl rfl k_571 mX5_forger ⟨rfl, rfl⟩ ⟨Nat.le_of_ble_eq_true rfl, Nat.le_of_ble_eq_true rfl⟩ rfl rfl (Nat.le_of_ble_eq_true rfl) dL_law_441 ⟨Nat.le_of_ble_eq_true rfl, Nat.le_of_ble_eq_true rfl⟩ ?_
                            refine lv_aload_n hx hb dL_law_444 rfl (lv_at hl2 0 rfl) ?_
                            refine lv_aload_n hx hb dL_law_445 rfl (lv_at hl2 2 rfl) ?_
                            refine lv_iload_n hx hb dL_law_446 rfl (lv_at hl2 3 rfl) ?_
                            refine lv_iconst (v := (1 : Int32)) hx hb dL_law_447 (by decide) ?_
                            refine lv_iadd hx hb dL_law_448 ?_
                            obtain ⟨h45, hm⟩ := ckd hm
                            refine va_sld hx hb hX hbl hbA hS3 (inB_vp h45) dL_law_449 ?_
                            obtain ⟨y450, hy450, hm⟩ := bn hm
                            refine cVRi (As := [.int (xs ((z18.1 + (1 : Int32))).toNatClampNeg)]) (rest := [.int y441]) X hP3 hl2.1 (c_X6_forger l D q a z18.2.2 (xs ((z18.1 + (1 : Int32))).toNatClampNeg) y450 hy450) [86, 87, 88, 89, 90, 91, 92, 93, 94, 95, 96, 97, 98, 99, 100, 101, 102, 103] rfl 86 rfl rfl rfl k_1128 mX6_forger ⟨rfl, rfl⟩ ⟨Nat.le_of_ble_eq_true rfl, Nat.le_of_ble_eq_true rfl⟩ rfl rfl (Nat.le_of_ble_eq_true rfl) dL_law_450 ⟨Nat.le_of_ble_eq_true rfl, Nat.le_of_ble_eq_true rfl⟩ ?_
                            refine lv_icmp_eq (tgt := 1367) hx hb dL_law_453 (by decide) (fun c453 => ?_) (fun c453 => ?_)
                            · replace hm := tp hm c453
                              refine lv_iinc (v := (z18.1 + (5 : Int32))) (lv' := [(3, .int (z18.1 + (5 : Int32))), (2, .ref (a 99)), (1, .ref (ad 0 99)), (0, .ref b)]) hx hb dL_law_1367 hl2 (k := 3) rfl rfl (by decide) rfl (fun ls46 hl46 => ?_)
                              clear hl2
                              refine lv_goto (tgt := 18) hx hb dL_law_1370 (by decide) ?_
                              cases hm
                              exact ih18 ((z18.1 + (5 : Int32)), z18.2.1, z18.2.2) ρ18 hz18 hK18 _ _ hP3 hD3 hS3 _ (lv_sub hl46 [1, 2, 3, 0] rfl)
                            · replace hm := tn hm c453
                              refine lv_iconst (v := (0 : Int32)) hx hb dL_law_456 (by decide) ?_
                              cases hm
                              cases hz18
                              have hm : (some (0 : Int32) : Option Int32) = some (1 : Int32) := hK18
                              exact absurd (Option.some.inj hm) (by decide)
                          · replace hm := tn hm c32_9
                            by_cases c32_10 : ((xs (z18.1).toNatClampNeg) &&& (63 : Int32)) = (10 : Int32)
                            · replace hm := tp hm c32_10
                              refine lv_tableIn (off := 426) (tgt := 458) hx hb dL_law_32 (by rw [c32_10]; decide) (by rw [c32_10]; decide) (by rw [c32_10]; rfl) (by decide) ?_
                              refine lv_aload_n hx hb dL_law_458 rfl (lv_at hl2 1 rfl) ?_
                              refine lv_aload_n hx hb dL_law_459 rfl (lv_at hl2 2 rfl) ?_
                              refine lv_iload_n hx hb dL_law_460 rfl (lv_at hl2 3 rfl) ?_
                              refine lv_iconst (v := (1 : Int32)) hx hb dL_law_461 (by decide) ?_
                              refine lv_iadd hx hb dL_law_462 ?_
                              obtain ⟨h47, hm⟩ := ckd hm
                              refine va_sld hx hb hX hbl hbA hS3 (inB_vp h47) dL_law_463 ?_
                              refine lv_aload_n hx hb dL_law_464 rfl (lv_at hl2 2 rfl) ?_
                              refine lv_iload_n hx hb dL_law_465 rfl (lv_at hl2 3 rfl) ?_
                              refine lv_iconst (v := (2 : Int32)) hx hb dL_law_466 (by decide) ?_
                              refine lv_iadd hx hb dL_law_467 ?_
                              obtain ⟨h48, hm⟩ := ckd hm
                              refine va_sld hx hb hX hbl hbA hS3 (inB_vp h48) dL_law_468 ?_
                              obtain ⟨y469, hy469, hm⟩ := bn hm
                              refine cVWi (As := [.int (xs ((z18.1 + (1 : Int32))).toNatClampNeg), .int (xs ((z18.1 + (2 : Int32))).toNatClampNeg)]) (rest := []) (Wn := fun (uu : SV) => wX5 q ad (z18.2.1 0) ++ (wX3 q (ad 1) uu ++ (wX3 q (ad 2) (z18.2.1 2) ++ (wX3 q (ad 3) (z18.2.1 3) ++ (wX3 q (ad 4) (z18.2.1 4) ++ (wX0 q (ad 5) (z18.2.1 5) (ad 6 99) ++ (wX3 q (ad 6) (z18.2.1 6) ++ (wX1 q (ad 7) (z18.2.1 7) ++ (wX4 q (ad 8) (z18.2.1 8) (ad 1 99) (ad 7 99) ++ (wX2 q (ad 9) (z18.2.1 9) ++ (wX2 q (ad 10) (z18.2.1 10) ++ (wX2 q (ad 11) (z18.2.1 11) ++ (wX2 q (ad 12) (z18.2.1 12) ++ wX6 q a z18.2.2))))))))))))) X hP3 hD3 hS3 (fun _ h => h) hl2.1 (c_X5_paint l D q H3.size ad (z18.2.1 0) (z18.2.1 1) (xs ((z18.1 + (1 : Int32))).toNatClampNeg) (xs ((z18.1 + (2 : Int32))).toNatClampNeg) y469 hy469) [0, 1, 2, 3, 4, 5, 6, 7, 8, 9, 10, 11, 12, 13, 14, 15, 16, 17] [18, 19, 20, 21, 22, 23, 24, 25, 26, 27, 28, 29, 30, 31, 32, 33, 34, 35, 36, 37, 38, 39, 40, 41, 42, 43, 44, 45, 46, 47, 48, 49, 50, 51, 52, 53, 54, 55, 56, 57, 58, 59, 60, 61, 62, 63, 64, 65, 66, 67, 68, 69, 70, 71, 72, 73, 74, 75, 76, 77, 78, 79, 80, 81, 82, 83, 84, 85, 86, 87, 88, 89, 90, 91, 92, 93, 94, 95, 96, 97, 98, 99, 100, 101, 102, 103] [86, 87, 88, 89, 90, 91, 92, 93, 94, 95, 96, 97, 98, 99, 100, 101, 102, 103, 0, 1, 2, 3, 4, 5, 6, 7, 8, 9, 10, 11, 12, 13, 14, 15, 16, 17, 18, 19, 20, 21, 22, 23, 24, 25, 26, 27, 28, 29, 30, 31, 32, 33, 34, 35, 36, 37, 38, 39, 40, 41, 42, 43, 44, 45, 46, 47, 48, 49, 50, 51, 52, 53, 54, 55, 56, 57, 58, 59, 60, 61, 62, 63, 64, 65, 66, 67, 68, 69, 70, 71, 72, 73, 74, 75, 76, 77, 78, 79, 80, 81, 82, 83, 84, 85] rfl (Wr := wX3 q (ad 2) (z18.2.1 2) ++ (wX3 q (ad 3) (z18.2.1 3) ++ (wX3 q (ad 4) (z18.2.1 4) ++ (wX0 q (ad 5) (z18.2.1 5) (ad 6 99) ++ (wX3 q (ad 6) (z18.2.1 6) ++ (wX1 q (ad 7) (z18.2.1 7) ++ (wX4 q (ad 8) (z18.2.1 8) (ad 1 99) (ad 7 99) ++ (wX2 q (ad 9) (z18.2.1 9) ++ (wX2 q (ad 10) (z18.2.1 10) ++ (wX2 q (ad 11) (z18.2.1 11) ++ (wX2 q (ad 12) (z18.2.1 12) ++ wX6 q a z18.2.2))))))))))) rfl (by decide) (by decide) (by decide) (by decide) (fun _ => rfl) 0 rfl rfl rfl k_575 mX5_paint ⟨rfl, rfl⟩ ⟨Nat.le_of_ble_eq_true rfl, Nat.le_of_ble_eq_true rfl⟩ rfl rfl (Nat.le_of_ble_eq_true rfl) dL_law_469 ⟨Nat.le_of_ble_eq_true rfl, Nat.le_of_ble_eq_true rfl⟩ (fun H49 locs49 hP hD hS49 => ?_)
                              have hP49 : va_P D cls (wX5 q ad (z18.2.1 0) ++ (wX3 q (ad 1) y469.2 ++ (wX3 q (ad 2) (z18.2.1 2) ++ (wX3 q (ad 3) (z18.2.1 3) ++ (wX3 q (ad 4) (z18.2.1 4) ++ (wX0 q (ad 5) (z18.2.1 5) (ad 6 99) ++ (wX3 q (ad 6) (z18.2.1 6) ++ (wX1 q (ad 7) (z18.2.1 7) ++ (wX4 q (ad 8) (z18.2.1 8) (ad 1 99) (ad 7 99) ++ (wX2 q (ad 9) (z18.2.1 9) ++ (wX2 q (ad 10) (z18.2.1 10) ++ (wX2 q (ad 11) (z18.2.1 11) ++ (wX2 q (ad 12) (z18.2.1 12) ++ wX6 q a z18.2.2))))))))))))) H49 := hP
                              have hD49 : va_D (fun z : Nat => s.heap.size ≤ z) (wX5 q ad (z18.2.1 0) ++ (wX3 q (ad 1) y469.2 ++ (wX3 q (ad 2) (z18.2.1 2) ++ (wX3 q (ad 3) (z18.2.1 3) ++ (wX3 q (ad 4) (z18.2.1 4) ++ (wX0 q (ad 5) (z18.2.1 5) (ad 6 99) ++ (wX3 q (ad 6) (z18.2.1 6) ++ (wX1 q (ad 7) (z18.2.1 7) ++ (wX4 q (ad 8) (z18.2.1 8) (ad 1 99) (ad 7 99) ++ (wX2 q (ad 9) (z18.2.1 9) ++ (wX2 q (ad 10) (z18.2.1 10) ++ (wX2 q (ad 11) (z18.2.1 11) ++ (wX2 q (ad 12) (z18.2.1 12) ++ wX6 q a z18.2.2))))))))))))) := hD
                              clear hP hD hP3 hD3 hS3
                              refine lv_aload_n hx hb dL_law_472 rfl (lv_at hl2 0 rfl) ?_
                              refine lv_aload_n hx hb dL_law_473 rfl (lv_at hl2 2 rfl) ?_
                              refine lv_iload_n hx hb dL_law_474 rfl (lv_at hl2 3 rfl) ?_
                              refine lv_iconst (v := (1 : Int32)) hx hb dL_law_475 (by decide) ?_
                              refine lv_iadd hx hb dL_law_476 ?_
                              obtain ⟨h50, hm⟩ := ckd hm
                              refine va_sld hx hb hX hbl hbA hS49 (inB_vp h50) dL_law_477 ?_
                              refine lv_aload_n hx hb dL_law_478 rfl (lv_at hl2 2 rfl) ?_
                              refine lv_iload_n hx hb dL_law_479 rfl (lv_at hl2 3 rfl) ?_
                              refine lv_iconst (v := (2 : Int32)) hx hb dL_law_480 (by decide) ?_
                              refine lv_iadd hx hb dL_law_481 ?_
                              obtain ⟨h51, hm⟩ := ckd hm
                              refine va_sld hx hb hX hbl hbA hS49 (inB_vp h51) dL_law_482 ?_
                              obtain ⟨y483, hy483, hm⟩ := bn hm
                              refine cVWi (As := [.int (xs ((z18.1 + (1 : Int32))).toNatClampNeg), .int (xs ((z18.1 + (2 : Int32))).toNatClampNeg)]) (rest := [.int y469.1]) (Wn := fun (uu : SV) => wX5 q ad (z18.2.1 0) ++ (wX3 q (ad 1) y469.2 ++ (wX3 q (ad 2) (z18.2.1 2) ++ (wX3 q (ad 3) (z18.2.1 3) ++ (wX3 q (ad 4) (z18.2.1 4) ++ (wX0 q (ad 5) (z18.2.1 5) (ad 6 99) ++ (wX3 q (ad 6) (z18.2.1 6) ++ (wX1 q (ad 7) (z18.2.1 7) ++ (wX4 q (ad 8) (z18.2.1 8) (ad 1 99) (ad 7 99) ++ (wX2 q (ad 9) (z18.2.1 9) ++ (wX2 q (ad 10) (z18.2.1 10) ++ (wX2 q (ad 11) (z18.2.1 11) ++ (wX2 q (ad 12) (z18.2.1 12) ++ wX6 q a uu))))))))))))) X hP49 hD49 hS49 (fun _ h => h) hl2.1 (c_X6_paint l D q H49.size a z18.2.2 (xs ((z18.1 + (1 : Int32))).toNatClampNeg) (xs ((z18.1 + (2 : Int32))).toNatClampNeg) y483 hy483) [86, 87, 88, 89, 90, 91, 92, 93, 94, 95, 96, 97, 98, 99, 100, 101, 102, 103] [0, 1, 2, 3, 4, 5, 6, 7, 8, 9, 10, 11, 12, 13, 14, 15, 16, 17, 18, 19, 20, 21, 22, 23, 24, 25, 26, 27, 28, 29, 30, 31, 32, 33, 34, 35, 36, 37, 38, 39, 40, 41, 42, 43, 44, 45, 46, 47, 48, 49, 50, 51, 52, 53, 54, 55, 56, 57, 58, 59, 60, 61, 62, 63, 64, 65, 66, 67, 68, 69, 70, 71, 72, 73, 74, 75, 76, 77, 78, 79, 80, 81, 82, 83, 84, 85] [0, 1, 2, 3, 4, 5, 6, 7, 8, 9, 10, 11, 12, 13, 14, 15, 16, 17, 18, 19, 20, 21, 22, 23, 24, 25, 26, 27, 28, 29, 30, 31, 32, 33, 34, 35, 36, 37, 38, 39, 40, 41, 42, 43, 44, 45, 46, 47, 48, 49, 50, 51, 52, 53, 54, 55, 56, 57, 58, 59, 60, 61, 62, 63, 64, 65, 66, 67, 68, 69, 70, 71, 72, 73, 74, 75, 76, 77, 78, 79, 80, 81, 82, 83, 84, 85, 86, 87, 88, 89, 90, 91, 92, 93, 94, 95, 96, 97, 98, 99, 100, 101, 102, 103] rfl (Wr := wX5 q ad (z18.2.1 0) ++ (wX3 q (ad 1) y469.2 ++ (wX3 q (ad 2) (z18.2.1 2) ++ (wX3 q (ad 3) (z18.2.1 3) ++ (wX3 q (ad 4) (z18.2.1 4) ++ (wX0 q (ad 5) (z18.2.1 5) (ad 6 99) ++ (wX3 q (ad 6) (z18.2.1 6) ++ (wX1 q (ad 7) (z18.2.1 7) ++ (wX4 q (ad 8) (z18.2.1 8) (ad 1 99) (ad 7 99) ++ (wX2 q (ad 9) (z18.2.1 9) ++ (wX2 q (ad 10) (z18.2.1 10) ++ (wX2 q (ad 11) (z18.2.1 11) ++ wX2 q (ad 12) (z18.2.1 12))))))))))))) rfl (by decide) (by decide) (by decide) (by decide) (fun _ => rfl) 86 rfl rfl rfl k_1132 mX6_paint ⟨rfl, rfl⟩ ⟨Nat.le_of_ble_eq_true rfl, Nat.le_of_ble_eq_true rfl⟩ rfl rfl (Nat.le_of_ble_eq_true rfl) dL_law_483 ⟨Nat.le_of_ble_eq_true rfl, Nat.le_of_ble_eq_true rfl⟩ (fun H52 locs52 hP hD hS52 => ?_)
                              have hP52 : va_P D cls (wX5 q ad (z18.2.1 0) ++ (wX3 q (ad 1) y469.2 ++ (wX3 q (ad 2) (z18.2.1 2) ++ (wX3 q (ad 3) (z18.2.1 3) ++ (wX3 q (ad 4) (z18.2.1 4) ++ (wX0 q (ad 5) (z18.2.1 5) (ad 6 99) ++ (wX3 q (ad 6) (z18.2.1 6) ++ (wX1 q (ad 7) (z18.2.1 7) ++ (wX4 q (ad 8) (z18.2.1 8) (ad 1 99) (ad 7 99) ++ (wX2 q (ad 9) (z18.2.1 9) ++ (wX2 q (ad 10) (z18.2.1 10) ++ (wX2 q (ad 11) (z18.2.1 11) ++ (wX2 q (ad 12) (z18.2.1 12) ++ wX6 q a y483.2))))))))))))) H52 := hP
                              have hD52 : va_D (fun z : Nat => s.heap.size ≤ z) (wX5 q ad (z18.2.1 0) ++ (wX3 q (ad 1) y469.2 ++ (wX3 q (ad 2) (z18.2.1 2) ++ (wX3 q (ad 3) (z18.2.1 3) ++ (wX3 q (ad 4) (z18.2.1 4) ++ (wX0 q (ad 5) (z18.2.1 5) (ad 6 99) ++ (wX3 q (ad 6) (z18.2.1 6) ++ (wX1 q (ad 7) (z18.2.1 7) ++ (wX4 q (ad 8) (z18.2.1 8) (ad 1 99) (ad 7 99) ++ (wX2 q (ad 9) (z18.2.1 9) ++ (wX2 q (ad 10) (z18.2.1 10) ++ (wX2 q (ad 11) (z18.2.1 11) ++ (wX2 q (ad 12) (z18.2.1 12) ++ wX6 q a y483.2))))))))))))) := hD
                              clear hP hD hP49 hD49 hS49
                              refine lv_icmp_eq (tgt := 1367) hx hb dL_law_486 (by decide) (fun c486 => ?_) (fun c486 => ?_)
                              · replace hm := tp hm c486
                                refine lv_iinc (v := (z18.1 + (5 : Int32))) (lv' := [(3, .int (z18.1 + (5 : Int32))), (2, .ref (a 99)), (1, .ref (ad 0 99)), (0, .ref b)]) hx hb dL_law_1367 hl2 (k := 3) rfl rfl (by decide) rfl (fun ls53 hl53 => ?_)
                                clear hl2
                                refine lv_goto (tgt := 18) hx hb dL_law_1370 (by decide) ?_
                                cases hm
                                exact ih18 ((z18.1 + (5 : Int32)), (mkG (z18.2.1 0) y469.2 (z18.2.1 2) (z18.2.1 3) (z18.2.1 4) (z18.2.1 5) (z18.2.1 6) (z18.2.1 7) (z18.2.1 8) (z18.2.1 9) (z18.2.1 10) (z18.2.1 11) (z18.2.1 12)), y483.2) ρ18 hz18 hK18 _ _ hP52 hD52 hS52 _ (lv_sub hl53 [1, 2, 3, 0] rfl)
                              · replace hm := tn hm c486
                                refine lv_iconst (v := (0 : Int32)) hx hb dL_law_489 (by decide) ?_
                                cases hm
                                cases hz18
                                have hm : (some (0 : Int32) : Option Int32) = some (1 : Int32) := hK18
                                exact absurd (Option.some.inj hm) (by decide)
                            · replace hm := tn hm c32_10
                              by_cases c32_11 : ((xs (z18.1).toNatClampNeg) &&& (63 : Int32)) = (11 : Int32)
                              · replace hm := tp hm c32_11
                                refine lv_tableIn (off := 459) (tgt := 491) hx hb dL_law_32 (by rw [c32_11]; decide) (by rw [c32_11]; decide) (by rw [c32_11]; rfl) (by decide) ?_
                                refine lv_aload_n hx hb dL_law_491 rfl (lv_at hl2 1 rfl) ?_
                                refine lv_aload_n hx hb dL_law_492 rfl (lv_at hl2 2 rfl) ?_
                                refine lv_iload_n hx hb dL_law_493 rfl (lv_at hl2 3 rfl) ?_
                                refine lv_iconst (v := (1 : Int32)) hx hb dL_law_494 (by decide) ?_
                                refine lv_iadd hx hb dL_law_495 ?_
                                obtain ⟨h54, hm⟩ := ckd hm
                                refine va_sld hx hb hX hbl hbA hS3 (inB_vp h54) dL_law_496 ?_
                                obtain ⟨y497, hy497, hm⟩ := bn hm
                                refine cVWi (As := [.int (xs ((z18.1 + (1 : Int32))).toNatClampNeg)]) (rest := []) (Wn := fun (uu : SV) => wX5 q ad (z18.2.1 0) ++ (wX3 q (ad 1) uu ++ (wX3 q (ad 2) (z18.2.1 2) ++ (wX3 q (ad 3) (z18.2.1 3) ++ (wX3 q (ad 4) (z18.2.1 4) ++ (wX0 q (ad 5) (z18.2.1 5) (ad 6 99) ++ (wX3 q (ad 6) (z18.2.1 6) ++ (wX1 q (ad 7) (z18.2.1 7) ++ (wX4 q (ad 8) (z18.2.1 8) (ad 1 99) (ad 7 99) ++ (wX2 q (ad 9) (z18.2.1 9) ++ (wX2 q (ad 10) (z18.2.1 10) ++ (wX2 q (ad 11) (z18.2.1 11) ++ (wX2 q (ad 12) (z18.2.1 12) ++ wX6 q a z18.2.2))))))))))))) X hP3 hD3 hS3 (fun _ h => h) hl2.1 (c_X5_scrape l D q H3.size ad (z18.2.1 0) (z18.2.1 1) (xs ((z18.1 + (1 : Int32))).toNatClampNeg) y497 hy497) [0, 1, 2, 3, 4, 5, 6, 7, 8, 9, 10, 11, 12, 13, 14, 15, 16, 17] [18, 19, 20, 21, 22, 23, 24, 25, 26, 27, 28, 29, 30, 31, 32, 33, 34, 35, 36, 37, 38, 39, 40, 41, 42, 43, 44, 45, 46, 47, 48, 49, 50, 51, 52, 53, 54, 55, 56, 57, 58, 59, 60, 61, 62, 63, 64, 65, 66, 67, 68, 69, 70, 71, 72, 73, 74, 75, 76, 77, 78, 79, 80, 81, 82, 83, 84, 85, 86, 87, 88, 89, 90, 91, 92, 93, 94, 95, 96, 97, 98, 99, 100, 101, 102, 103] [86, 87, 88, 89, 90, 91, 92, 93, 94, 95, 96, 97, 98, 99, 100, 101, 102, 103, 0, 1, 2, 3, 4, 5, 6, 7, 8, 9, 10, 11, 12, 13, 14, 15, 16, 17, 18, 19, 20, 21, 22, 23, 24, 25, 26, 27, 28, 29, 30, 31, 32, 33, 34, 35, 36, 37, 38, 39, 40, 41, 42, 43, 44, 45, 46, 47, 48, 49, 50, 51, 52, 53, 54, 55, 56, 57, 58, 59, 60, 61, 62, 63, 64, 65, 66, 67, 68, 69, 70, 71, 72, 73, 74, 75, 76, 77, 78, 79, 80, 81, 82, 83, 84, 85] rfl (Wr := wX3 q (ad 2) (z18.2.1 2) ++ (wX3 q (ad 3) (z18.2.1 3) ++ (wX3 q (ad 4) (z18.2.1 4) ++ (wX0 q (ad 5) (z18.2.1 5) (ad 6 99) ++ (wX3 q (ad 6) (z18.2.1 6) ++ (wX1 q (ad 7) (z18.2.1 7) ++ (wX4 q (ad 8) (z18.2.1 8) (ad 1 99) (ad 7 99) ++ (wX2 q (ad 9) (z18.2.1 9) ++ (wX2 q (ad 10) (z18.2.1 10) ++ (wX2 q (ad 11) (z18.2.1 11) ++ (wX2 q (ad 12) (z18.2.1 12) ++ wX6 q a z18.2.2))))))))))) rfl (by decide) (by decide) (by decide) (by decide) (fun _ => rfl) 0 rfl rfl rfl k_585 mX5_scrape ⟨rfl, rfl⟩ ⟨Nat.le_of_ble_eq_true rfl, Nat.le_of_ble_eq_true rfl⟩ rfl rfl (Nat.le_of_ble_eq_true rfl) dL_law_497 ⟨Nat.le_of_ble_eq_true rfl, Nat.le_of_ble_eq_true rfl⟩ (fun H55 locs55 hP hD hS55 => ?_)
                                have hP55 : va_P D cls (wX5 q ad (z18.2.1 0) ++ (wX3 q (ad 1) y497.2 ++ (wX3 q (ad 2) (z18.2.1 2) ++ (wX3 q (ad 3) (z18.2.1 3) ++ (wX3 q (ad 4) (z18.2.1 4) ++ (wX0 q (ad 5) (z18.2.1 5) (ad 6 99) ++ (wX3 q (ad 6) (z18.2.1 6) ++ (wX1 q (ad 7) (z18.2.1 7) ++ (wX4 q (ad 8) (z18.2.1 8) (ad 1 99) (ad 7 99) ++ (wX2 q (ad 9) (z18.2.1 9) ++ (wX2 q (ad 10) (z18.2.1 10) ++ (wX2 q (ad 11) (z18.2.1 11) ++ (wX2 q (ad 12) (z18.2.1 12) ++ wX6 q a z18.2.2))))))))))))) H55 := hP
                                have hD55 : va_D (fun z : Nat => s.heap.size ≤ z) (wX5 q ad (z18.2.1 0) ++ (wX3 q (ad 1) y497.2 ++ (wX3 q (ad 2) (z18.2.1 2) ++ (wX3 q (ad 3) (z18.2.1 3) ++ (wX3 q (ad 4) (z18.2.1 4) ++ (wX0 q (ad 5) (z18.2.1 5) (ad 6 99) ++ (wX3 q (ad 6) (z18.2.1 6) ++ (wX1 q (ad 7) (z18.2.1 7) ++ (wX4 q (ad 8) (z18.2.1 8) (ad 1 99) (ad 7 99) ++ (wX2 q (ad 9) (z18.2.1 9) ++ (wX2 q (ad 10) (z18.2.1 10) ++ (wX2 q (ad 11) (z18.2.1 11) ++ (wX2 q (ad 12) (z18.2.1 12) ++ wX6 q a z18.2.2))))))))))))) := hD
                                clear hP hD hP3 hD3 hS3
                                refine lv_aload_n hx hb dL_law_500 rfl (lv_at hl2 0 rfl) ?_
                                refine lv_aload_n hx hb dL_law_501 rfl (lv_at hl2 2 rfl) ?_
                                refine lv_iload_n hx hb dL_law_502 rfl (lv_at hl2 3 rfl) ?_
                                refine lv_iconst (v := (1 : Int32)) hx hb dL_law_503 (by decide) ?_
                                refine lv_iadd hx hb dL_law_504 ?_
                                obtain ⟨h56, hm⟩ := ckd hm
                                refine va_sld hx hb hX hbl hbA hS55 (inB_vp h56) dL_law_505 ?_
                                obtain ⟨y506, hy506, hm⟩ := bn hm
                                refine cVWi (As := [.int (xs ((z18.1 + (1 : Int32))).toNatClampNeg)]) (rest := [.int y497.1]) (Wn := fun (uu : SV) => wX5 q ad (z18.2.1 0) ++ (wX3 q (ad 1) y497.2 ++ (wX3 q (ad 2) (z18.2.1 2) ++ (wX3 q (ad 3) (z18.2.1 3) ++ (wX3 q (ad 4) (z18.2.1 4) ++ (wX0 q (ad 5) (z18.2.1 5) (ad 6 99) ++ (wX3 q (ad 6) (z18.2.1 6) ++ (wX1 q (ad 7) (z18.2.1 7) ++ (wX4 q (ad 8) (z18.2.1 8) (ad 1 99) (ad 7 99) ++ (wX2 q (ad 9) (z18.2.1 9) ++ (wX2 q (ad 10) (z18.2.1 10) ++ (wX2 q (ad 11) (z18.2.1 11) ++ (wX2 q (ad 12) (z18.2.1 12) ++ wX6 q a uu))))))))))))) X hP55 hD55 hS55 (fun _ h => h) hl2.1 (c_X6_scrape l D q H55.size a z18.2.2 (xs ((z18.1 + (1 : Int32))).toNatClampNeg) y506 hy506) [86, 87, 88, 89, 90, 91, 92, 93, 94, 95, 96, 97, 98, 99, 100, 101, 102, 103] [0, 1, 2, 3, 4, 5, 6, 7, 8, 9, 10, 11, 12, 13, 14, 15, 16, 17, 18, 19, 20, 21, 22, 23, 24, 25, 26, 27, 28, 29, 30, 31, 32, 33, 34, 35, 36, 37, 38, 39, 40, 41, 42, 43, 44, 45, 46, 47, 48, 49, 50, 51, 52, 53, 54, 55, 56, 57, 58, 59, 60, 61, 62, 63, 64, 65, 66, 67, 68, 69, 70, 71, 72, 73, 74, 75, 76, 77, 78, 79, 80, 81, 82, 83, 84, 85] [0, 1, 2, 3, 4, 5, 6, 7, 8, 9, 10, 11, 12, 13, 14, 15, 16, 17, 18, 19, 20, 21, 22, 23, 24, 25, 26, 27, 28, 29, 30, 31, 32, 33, 34, 35, 36, 37, 38, 39, 40, 41, 42, 43, 44, 45, 46, 47, 48, 49, 50, 51, 52, 53, 54, 55, 56, 57, 58, 59, 60, 61, 62, 63, 64, 65, 66, 67, 68, 69, 70, 71, 72, 73, 74, 75, 76, 77, 78, 79, 80, 81, 82, 83, 84, 85, 86, 87, 88, 89, 90, 91, 92, 93, 94, 95, 96, 97, 98, 99, 100, 101, 102, 103] rfl (Wr := wX5 q ad (z18.2.1 0) ++ (wX3 q (ad 1) y497.2 ++ (wX3 q (ad 2) (z18.2.1 2) ++ (wX3 q (ad 3) (z18.2.1 3) ++ (wX3 q (ad 4) (z18.2.1 4) ++ (wX0 q (ad 5) (z18.2.1 5) (ad 6 99) ++ (wX3 q (ad 6) (z18.2.1 6) ++ (wX1 q (ad 7) (z18.2.1 7) ++ (wX4 q (ad 8) (z18.2.1 8) (ad 1 99) (ad 7 99) ++ (wX2 q (ad 9) (z18.2.1 9) ++ (wX2 q (ad 10) (z18.2.1 10) ++ (wX2 q (ad 11) (z18.2.1 11) ++ wX2 q (ad 12) (z18.2.1 12))))))))))))) rfl (by decide) (by decide) (by decide) (by decide) (fun _ => rfl) 86 rfl rfl rfl k_1144 mX6_scrape ⟨rfl, rfl⟩ ⟨Nat.le_of_ble_eq_true rfl, Nat.le_of_ble_eq_true rfl⟩ rfl rfl (Nat.le_of_ble_eq_true rfl) dL_law_506 ⟨Nat.le_of_ble_eq_true rfl, Nat.le_of_ble_eq_true rfl⟩ (fun H57 locs57 hP hD hS57 => ?_)
                                have hP57 : va_P D cls (wX5 q ad (z18.2.1 0) ++ (wX3 q (ad 1) y497.2 ++ (wX3 q (ad 2) (z18.2.1 2) ++ (wX3 q (ad 3) (z18.2.1 3) ++ (wX3 q (ad 4) (z18.2.1 4) ++ (wX0 q (ad 5) (z18.2.1 5) (ad 6 99) ++ (wX3 q (ad 6) (z18.2.1 6) ++ (wX1 q (ad 7) (z18.2.1 7) ++ (wX4 q (ad 8) (z18.2.1 8) (ad 1 99) (ad 7 99) ++ (wX2 q (ad 9) (z18.2.1 9) ++ (wX2 q (ad 10) (z18.2.1 10) ++ (wX2 q (ad 11) (z18.2.1 11) ++ (wX2 q (ad 12) (z18.2.1 12) ++ wX6 q a y506.2))))))))))))) H57 := hP
                                have hD57 : va_D (fun z : Nat => s.heap.size ≤ z) (wX5 q ad (z18.2.1 0) ++ (wX3 q (ad 1) y497.2 ++ (wX3 q (ad 2) (z18.2.1 2) ++ (wX3 q (ad 3) (z18.2.1 3) ++ (wX3 q (ad 4) (z18.2.1 4) ++ (wX0 q (ad 5) (z18.2.1 5) (ad 6 99) ++ (wX3 q (ad 6) (z18.2.1 6) ++ (wX1 q (ad 7) (z18.2.1 7) ++ (wX4 q (ad 8) (z18.2.1 8) (ad 1 99) (ad 7 99) ++ (wX2 q (ad 9) (z18.2.1 9) ++ (wX2 q (ad 10) (z18.2.1 10) ++ (wX2 q (ad 11) (z18.2.1 11) ++ (wX2 q (ad 12) (z18.2.1 12) ++ wX6 q a y506.2))))))))))))) := hD
                                clear hP hD hP55 hD55 hS55
                                refine lv_icmp_eq (tgt := 1367) hx hb dL_law_509 (by decide) (fun c509 => ?_) (fun c509 => ?_)
                                · replace hm := tp hm c509
                                  refine lv_iinc (v := (z18.1 + (5 : Int32))) (lv' := [(3, .int (z18.1 + (5 : Int32))), (2, .ref (a 99)), (1, .ref (ad 0 99)), (0, .ref b)]) hx hb dL_law_1367 hl2 (k := 3) rfl rfl (by decide) rfl (fun ls58 hl58 => ?_)
                                  clear hl2
                                  refine lv_goto (tgt := 18) hx hb dL_law_1370 (by decide) ?_
                                  cases hm
                                  exact ih18 ((z18.1 + (5 : Int32)), (mkG (z18.2.1 0) y497.2 (z18.2.1 2) (z18.2.1 3) (z18.2.1 4) (z18.2.1 5) (z18.2.1 6) (z18.2.1 7) (z18.2.1 8) (z18.2.1 9) (z18.2.1 10) (z18.2.1 11) (z18.2.1 12)), y506.2) ρ18 hz18 hK18 _ _ hP57 hD57 hS57 _ (lv_sub hl58 [1, 2, 3, 0] rfl)
                                · replace hm := tn hm c509
                                  refine lv_iconst (v := (0 : Int32)) hx hb dL_law_512 (by decide) ?_
                                  cases hm
                                  cases hz18
                                  have hm : (some (0 : Int32) : Option Int32) = some (1 : Int32) := hK18
                                  exact absurd (Option.some.inj hm) (by decide)
                              · replace hm := tn hm c32_11
                                by_cases c32_12 : ((xs (z18.1).toNatClampNeg) &&& (63 : Int32)) = (12 : Int32)
                                · replace hm := tp hm c32_12
                                  refine lv_tableIn (off := 482) (tgt := 514) hx hb dL_law_32 (by rw [c32_12]; decide) (by rw [c32_12]; decide) (by rw [c32_12]; rfl) (by decide) ?_
                                  refine lv_aload_n hx hb dL_law_514 rfl (lv_at hl2 1 rfl) ?_
                                  refine lv_aload_n hx hb dL_law_515 rfl (lv_at hl2 2 rfl) ?_
                                  refine lv_iload_n hx hb dL_law_516 rfl (lv_at hl2 3 rfl) ?_
                                  refine lv_iconst (v := (1 : Int32)) hx hb dL_law_517 (by decide) ?_
                                  refine lv_iadd hx hb dL_law_518 ?_
                                  obtain ⟨h59, hm⟩ := ckd hm
                                  refine va_sld hx hb hX hbl hbA hS3 (inB_vp h59) dL_law_519 ?_
                                  refine lv_aload_n hx hb dL_law_520 rfl (lv_at hl2 2 rfl) ?_
                                  refine lv_iload_n hx hb dL_law_521 rfl (lv_at hl2 3 rfl) ?_
                                  refine lv_iconst (v := (2 : Int32)) hx hb dL_law_522 (by decide) ?_
                                  refine lv_iadd hx hb dL_law_523 ?_
                                  obtain ⟨h60, hm⟩ := ckd hm
                                  refine va_sld hx hb hX hbl hbA hS3 (inB_vp h60) dL_law_524 ?_
                                  refine lv_aload_n hx hb dL_law_525 rfl (lv_at hl2 2 rfl) ?_
                                  refine lv_iload_n hx hb dL_law_526 rfl (lv_at hl2 3 rfl) ?_
                                  refine lv_iconst (v := (3 : Int32)) hx hb dL_law_527 (by decide) ?_
                                  refine lv_iadd hx hb dL_law_528 ?_
                                  obtain ⟨h61, hm⟩ := ckd hm
                                  refine va_sld hx hb hX hbl hbA hS3 (inB_vp h61) dL_law_529 ?_
                                  obtain ⟨y530, hy530, hm⟩ := bn hm
                                  refine cVWi (As := [.int (xs ((z18.1 + (1 : Int32))).toNatClampNeg), .int (xs ((z18.1 + (2 : Int32))).toNatClampNeg), .int (xs ((z18.1 + (3 : Int32))).toNatClampNeg)]) (rest := []) (Wn := fun (uu : SV) => wX5 q ad (z18.2.1 0) ++ (wX3 q (ad 1) uu ++ (wX3 q (ad 2) (z18.2.1 2) ++ (wX3 q (ad 3) (z18.2.1 3) ++ (wX3 q (ad 4) (z18.2.1 4) ++ (wX0 q (ad 5) (z18.2.1 5) (ad 6 99) ++ (wX3 q (ad 6) (z18.2.1 6) ++ (wX1 q (ad 7) (z18.2.1 7) ++ (wX4 q (ad 8) (z18.2.1 8) (ad 1 99) (ad 7 99) ++ (wX2 q (ad 9) (z18.2.1 9) ++ (wX2 q (ad 10) (z18.2.1 10) ++ (wX2 q (ad 11) (z18.2.1 11) ++ (wX2 q (ad 12) (z18.2.1 12) ++ wX6 q a z18.2.2))))))))))))) X hP3 hD3 hS3 (fun _ h => h) hl2.1 (c_X5_alter l D q H3.size ad (z18.2.1 0) (z18.2.1 1) (xs ((z18.1 + (1 : Int32))).toNatClampNeg) (xs ((z18.1 + (2 : Int32))).toNatClampNeg) (xs ((z18.1 + (3 : Int32))).toNatClampNeg) y530 hy530) [0, 1, 2, 3, 4, 5, 6, 7, 8, 9, 10, 11, 12, 13, 14, 15, 16, 17] [18, 19, 20, 21, 22, 23, 24, 25, 26, 27, 28, 29, 30, 31, 32, 33, 34, 35, 36, 37, 38, 39, 40, 41, 42, 43, 44, 45, 46, 47, 48, 49, 50, 51, 52, 53, 54, 55, 56, 57, 58, 59, 60, 61, 62, 63, 64, 65, 66, 67, 68, 69, 70, 71, 72, 73, 74, 75, 76, 77, 78, 79, 80, 81, 82, 83, 84, 85, 86, 87, 88, 89, 90, 91, 92, 93, 94, 95, 96, 97, 98, 99, 100, 101, 102, 103] [86, 87, 88, 89, 90, 91, 92, 93, 94, 95, 96, 97, 98, 99, 100, 101, 102, 103, 0, 1, 2, 3, 4, 5, 6, 7, 8, 9, 10, 11, 12, 13, 14, 15, 16, 17, 18, 19, 20, 21, 22, 23, 24, 25, 26, 27, 28, 29, 30, 31, 32, 33, 34, 35, 36, 37, 38, 39, 40, 41, 42, 43, 44, 45, 46, 47, 48, 49, 50, 51, 52, 53, 54, 55, 56, 57, 58, 59, 60, 61, 62, 63, 64, 65, 66, 67, 68, 69, 70, 71, 72, 73, 74, 75, 76, 77, 78, 79, 80, 81, 82, 83, 84, 85] rfl (Wr := wX3 q (ad 2) (z18.2.1 2) ++ (wX3 q (ad 3) (z18.2.1 3) ++ (wX3 q (ad 4) (z18.2.1 4) ++ (wX0 q (ad 5) (z18.2.1 5) (ad 6 99) ++ (wX3 q (ad 6) (z18.2.1 6) ++ (wX1 q (ad 7) (z18.2.1 7) ++ (wX4 q (ad 8) (z18.2.1 8) (ad 1 99) (ad 7 99) ++ (wX2 q (ad 9) (z18.2.1 9) ++ (wX2 q (ad 10) (z18.2.1 10) ++ (wX2 q (ad 11) (z18.2.1 11) ++ (wX2 q (ad 12) (z18.2.1 12) ++ wX6 q a z18.2.2))))))))))) rfl (by decide) (by decide) (by decide) (by decide) (fun _ => rfl) 0 rfl rfl rfl k_589 mX5_alter ⟨rfl, rfl⟩ ⟨Nat.le_of_ble_eq_true rfl, Nat.le_of_ble_eq_true rfl⟩ rfl rfl (Nat.le_of_ble_eq_true rfl) dL_law_530 ⟨Nat.le_of_ble_eq_true rfl, Nat.le_of_ble_eq_true rfl⟩ (fun H62 locs62 hP hD hS62 => ?_)
                                  have hP62 : va_P D cls (wX5 q ad (z18.2.1 0) ++ (wX3 q (ad 1) y530.2 ++ (wX3 q (ad 2) (z18.2.1 2) ++ (wX3 q (ad 3) (z18.2.1 3) ++ (wX3 q (ad 4) (z18.2.1 4) ++ (wX0 q (ad 5) (z18.2.1 5) (ad 6 99) ++ (wX3 q (ad 6) (z18.2.1 6) ++ (wX1 q (ad 7) (z18.2.1 7) ++ (wX4 q (ad 8) (z18.2.1 8) (ad 1 99) (ad 7 99) ++ (wX2 q (ad 9) (z18.2.1 9) ++ (wX2 q (ad 10) (z18.2.1 10) ++ (wX2 q (ad 11) (z18.2.1 11) ++ (wX2 q (ad 12) (z18.2.1 12) ++ wX6 q a z18.2.2))))))))))))) H62 := hP
                                  have hD62 : va_D (fun z : Nat => s.heap.size ≤ z) (wX5 q ad (z18.2.1 0) ++ (wX3 q (ad 1) y530.2 ++ (wX3 q (ad 2) (z18.2.1 2) ++ (wX3 q (ad 3) (z18.2.1 3) ++ (wX3 q (ad 4) (z18.2.1 4) ++ (wX0 q (ad 5) (z18.2.1 5) (ad 6 99) ++ (wX3 q (ad 6) (z18.2.1 6) ++ (wX1 q (ad 7) (z18.2.1 7) ++ (wX4 q (ad 8) (z18.2.1 8) (ad 1 99) (ad 7 99) ++ (wX2 q (ad 9) (z18.2.1 9) ++ (wX2 q (ad 10) (z18.2.1 10) ++ (wX2 q (ad 11) (z18.2.1 11) ++ (wX2 q (ad 12) (z18.2.1 12) ++ wX6 q a z18.2.2))))))))))))) := hD
                                  clear hP hD hP3 hD3 hS3
                                  refine lv_aload_n hx hb dL_law_533 rfl (lv_at hl2 0 rfl) ?_
                                  refine lv_aload_n hx hb dL_law_534 rfl (lv_at hl2 2 rfl) ?_
                                  refine lv_iload_n hx hb dL_law_535 rfl (lv_at hl2 3 rfl) ?_
                                  refine lv_iconst (v := (1 : Int32)) hx hb dL_law_536 (by decide) ?_
                                  refine lv_iadd hx hb dL_law_537 ?_
                                  obtain ⟨h63, hm⟩ := ckd hm
                                  refine va_sld hx hb hX hbl hbA hS62 (inB_vp h63) dL_law_538 ?_
                                  refine lv_aload_n hx hb dL_law_539 rfl (lv_at hl2 2 rfl) ?_
                                  refine lv_iload_n hx hb dL_law_540 rfl (lv_at hl2 3 rfl) ?_
                                  refine lv_iconst (v := (2 : Int32)) hx hb dL_law_541 (by decide) ?_
                                  refine lv_iadd hx hb dL_law_542 ?_
                                  obtain ⟨h64, hm⟩ := ckd hm
                                  refine va_sld hx hb hX hbl hbA hS62 (inB_vp h64) dL_law_543 ?_
                                  refine lv_aload_n hx hb dL_law_544 rfl (lv_at hl2 2 rfl) ?_
                                  refine lv_iload_n hx hb dL_law_545 rfl (lv_at hl2 3 rfl) ?_
                                  refine lv_iconst (v := (3 : Int32)) hx hb dL_law_546 (by decide) ?_
                                  refine lv_iadd hx hb dL_law_547 ?_
                                  obtain ⟨h65, hm⟩ := ckd hm
                                  refine va_sld hx hb hX hbl hbA hS62 (inB_vp h65) dL_law_548 ?_
                                  obtain ⟨y549, hy549, hm⟩ := bn hm
                                  refine cVWi (As := [.int (xs ((z18.1 + (1 : Int32))).toNatClampNeg), .int (xs ((z18.1 + (2 : Int32))).toNatClampNeg), .int (xs ((z18.1 + (3 : Int32))).toNatClampNeg)]) (rest := [.int y530.1]) (Wn := fun (uu : SV) => wX5 q ad (z18.2.1 0) ++ (wX3 q (ad 1) y530.2 ++ (wX3 q (ad 2) (z18.2.1 2) ++ (wX3 q (ad 3) (z18.2.1 3) ++ (wX3 q (ad 4) (z18.2.1 4) ++ (wX0 q (ad 5) (z18.2.1 5) (ad 6 99) ++ (wX3 q (ad 6) (z18.2.1 6) ++ (wX1 q (ad 7) (z18.2.1 7) ++ (wX4 q (ad 8) (z18.2.1 8) (ad 1 99) (ad 7 99) ++ (wX2 q (ad 9) (z18.2.1 9) ++ (wX2 q (ad 10) (z18.2.1 10) ++ (wX2 q (ad 11) (z18.2.1 11) ++ (wX2 q (ad 12) (z18.2.1 12) ++ wX6 q a uu))))))))))))) X hP62 hD62 hS62 (fun _ h => h) hl2.1 (c_X6_alter l D q H62.size a z18.2.2 (xs ((z18.1 + (1 : Int32))).toNatClampNeg) (xs ((z18.1 + (2 : Int32))).toNatClampNeg) (xs ((z18.1 + (3 : Int32))).toNatClampNeg) y549 hy549) [86, 87, 88, 89, 90, 91, 92, 93, 94, 95, 96, 97, 98, 99, 100, 101, 102, 103] [0, 1, 2, 3, 4, 5, 6, 7, 8, 9, 10, 11, 12, 13, 14, 15, 16, 17, 18, 19, 20, 21, 22, 23, 24, 25, 26, 27, 28, 29, 30, 31, 32, 33, 34, 35, 36, 37, 38, 39, 40, 41, 42, 43, 44, 45, 46, 47, 48, 49, 50, 51, 52, 53, 54, 55, 56, 57, 58, 59, 60, 61, 62, 63, 64, 65, 66, 67, 68, 69, 70, 71, 72, 73, 74, 75, 76, 77, 78, 79, 80, 81, 82, 83, 84, 85] [0, 1, 2, 3, 4, 5, 6, 7, 8, 9, 10, 11, 12, 13, 14, 15, 16, 17, 18, 19, 20, 21, 22, 23, 24, 25, 26, 27, 28, 29, 30, 31, 32, 33, 34, 35, 36, 37, 38, 39, 40, 41, 42, 43, 44, 45, 46, 47, 48, 49, 50, 51, 52, 53, 54, 55, 56, 57, 58, 59, 60, 61, 62, 63, 64, 65, 66, 67, 68, 69, 70, 71, 72, 73, 74, 75, 76, 77, 78, 79, 80, 81, 82, 83, 84, 85, 86, 87, 88, 89, 90, 91, 92, 93, 94, 95, 96, 97, 98, 99, 100, 101, 102, 103] rfl (Wr := wX5 q ad (z18.2.1 0) ++ (wX3 q (ad 1) y530.2 ++ (wX3 q (ad 2) (z18.2.1 2) ++ (wX3 q (ad 3) (z18.2.1 3) ++ (wX3 q (ad 4) (z18.2.1 4) ++ (wX0 q (ad 5) (z18.2.1 5) (ad 6 99) ++ (wX3 q (ad 6) (z18.2.1 6) ++ (wX1 q (ad 7) (z18.2.1 7) ++ (wX4 q (ad 8) (z18.2.1 8) (ad 1 99) (ad 7 99) ++ (wX2 q (ad 9) (z18.2.1 9) ++ (wX2 q (ad 10) (z18.2.1 10) ++ (wX2 q (ad 11) (z18.2.1 11) ++ wX2 q (ad 12) (z18.2.1 12))))))))))))) rfl (by decide) (by decide) (by decide) (by decide) (fun _ => rfl) 86 rfl rfl rfl k_1148 mX6_alter ⟨rfl, rfl⟩ ⟨Nat.le_of_ble_eq_true rfl, Nat.le_of_ble_eq_true rfl⟩ rfl rfl (Nat.le_of_ble_eq_true rfl) dL_law_549 ⟨Nat.le_of_ble_eq_true rfl, Nat.le_of_ble_eq_true rfl⟩ (fun H66 locs66 hP hD hS66 => ?_)
                                  have hP66 : va_P D cls (wX5 q ad (z18.2.1 0) ++ (wX3 q (ad 1) y530.2 ++ (wX3 q (ad 2) (z18.2.1 2) ++ (wX3 q (ad 3) (z18.2.1 3) ++ (wX3 q (ad 4) (z18.2.1 4) ++ (wX0 q (ad 5) (z18.2.1 5) (ad 6 99) ++ (wX3 q (ad 6) (z18.2.1 6) ++ (wX1 q (ad 7) (z18.2.1 7) ++ (wX4 q (ad 8) (z18.2.1 8) (ad 1 99) (ad 7 99) ++ (wX2 q (ad 9) (z18.2.1 9) ++ (wX2 q (ad 10) (z18.2.1 10) ++ (wX2 q (ad 11) (z18.2.1 11) ++ (wX2 q (ad 12) (z18.2.1 12) ++ wX6 q a y549.2))))))))))))) H66 := hP
                                  have hD66 : va_D (fun z : Nat => s.heap.size ≤ z) (wX5 q ad (z18.2.1 0) ++ (wX3 q (ad 1) y530.2 ++ (wX3 q (ad 2) (z18.2.1 2) ++ (wX3 q (ad 3) (z18.2.1 3) ++ (wX3 q (ad 4) (z18.2.1 4) ++ (wX0 q (ad 5) (z18.2.1 5) (ad 6 99) ++ (wX3 q (ad 6) (z18.2.1 6) ++ (wX1 q (ad 7) (z18.2.1 7) ++ (wX4 q (ad 8) (z18.2.1 8) (ad 1 99) (ad 7 99) ++ (wX2 q (ad 9) (z18.2.1 9) ++ (wX2 q (ad 10) (z18.2.1 10) ++ (wX2 q (ad 11) (z18.2.1 11) ++ (wX2 q (ad 12) (z18.2.1 12) ++ wX6 q a y549.2))))))))))))) := hD
                                  clear hP hD hP62 hD62 hS62
                                  refine lv_icmp_eq (tgt := 1367) hx hb dL_law_552 (by decide) (fun c552 => ?_) (fun c552 => ?_)
                                  · replace hm := tp hm c552
                                    refine lv_iinc (v := (z18.1 + (5 : Int32))) (lv' := [(3, .int (z18.1 + (5 : Int32))), (2, .ref (a 99)), (1, .ref (ad 0 99)), (0, .ref b)]) hx hb dL_law_1367 hl2 (k := 3) rfl rfl (by decide) rfl (fun ls67 hl67 => ?_)
                                    clear hl2
                                    refine lv_goto (tgt := 18) hx hb dL_law_1370 (by decide) ?_
                                    cases hm
                                    exact ih18 ((z18.1 + (5 : Int32)), (mkG (z18.2.1 0) y530.2 (z18.2.1 2) (z18.2.1 3) (z18.2.1 4) (z18.2.1 5) (z18.2.1 6) (z18.2.1 7) (z18.2.1 8) (z18.2.1 9) (z18.2.1 10) (z18.2.1 11) (z18.2.1 12)), y549.2) ρ18 hz18 hK18 _ _ hP66 hD66 hS66 _ (lv_sub hl67 [1, 2, 3, 0] rfl)
                                  · replace hm := tn hm c552
                                    refine lv_iconst (v := (0 : Int32)) hx hb dL_law_555 (by decide) ?_
                                    cases hm
                                    cases hz18
                                    have hm : (some (0 : Int32) : Option Int32) = some (1 : Int32) := hK18
                                    exact absurd (Option.some.inj hm) (by decide)
                                · replace hm := tn hm c32_12
                                  by_cases c32_13 : ((xs (z18.1).toNatClampNeg) &&& (63 : Int32)) = (13 : Int32)
                                  · replace hm := tp hm c32_13
                                    refine lv_tableIn (off := 525) (tgt := 557) hx hb dL_law_32 (by rw [c32_13]; decide) (by rw [c32_13]; decide) (by rw [c32_13]; rfl) (by decide) ?_
                                    refine lv_aload_n hx hb dL_law_557 rfl (lv_at hl2 1 rfl) ?_
                                    refine lv_aload_n hx hb dL_law_558 rfl (lv_at hl2 2 rfl) ?_
                                    refine lv_iload_n hx hb dL_law_559 rfl (lv_at hl2 3 rfl) ?_
                                    refine lv_iconst (v := (1 : Int32)) hx hb dL_law_560 (by decide) ?_
                                    refine lv_iadd hx hb dL_law_561 ?_
                                    obtain ⟨h68, hm⟩ := ckd hm
                                    refine va_sld hx hb hX hbl hbA hS3 (inB_vp h68) dL_law_562 ?_
                                    refine lv_aload_n hx hb dL_law_563 rfl (lv_at hl2 2 rfl) ?_
                                    refine lv_iload_n hx hb dL_law_564 rfl (lv_at hl2 3 rfl) ?_
                                    refine lv_iconst (v := (2 : Int32)) hx hb dL_law_565 (by decide) ?_
                                    refine lv_iadd hx hb dL_law_566 ?_
                                    obtain ⟨h69, hm⟩ := ckd hm
                                    refine va_sld hx hb hX hbl hbA hS3 (inB_vp h69) dL_law_567 ?_
                                    obtain ⟨y568, hy568, hm⟩ := bn hm
                                    refine cVWi (As := [.int (xs ((z18.1 + (1 : Int32))).toNatClampNeg), .int (xs ((z18.1 + (2 : Int32))).toNatClampNeg)]) (rest := []) (Wn := fun (uu : SV) => wX5 q ad (z18.2.1 0) ++ (wX3 q (ad 1) uu ++ (wX3 q (ad 2) (z18.2.1 2) ++ (wX3 q (ad 3) (z18.2.1 3) ++ (wX3 q (ad 4) (z18.2.1 4) ++ (wX0 q (ad 5) (z18.2.1 5) (ad 6 99) ++ (wX3 q (ad 6) (z18.2.1 6) ++ (wX1 q (ad 7) (z18.2.1 7) ++ (wX4 q (ad 8) (z18.2.1 8) (ad 1 99) (ad 7 99) ++ (wX2 q (ad 9) (z18.2.1 9) ++ (wX2 q (ad 10) (z18.2.1 10) ++ (wX2 q (ad 11) (z18.2.1 11) ++ (wX2 q (ad 12) (z18.2.1 12) ++ wX6 q a z18.2.2))))))))))))) X hP3 hD3 hS3 (fun _ h => h) hl2.1 (c_X5_worth l D q H3.size ad (z18.2.1 0) (z18.2.1 1) (xs ((z18.1 + (1 : Int32))).toNatClampNeg) (xs ((z18.1 + (2 : Int32))).toNatClampNeg) y568 hy568) [0, 1, 2, 3, 4, 5, 6, 7, 8, 9, 10, 11, 12, 13, 14, 15, 16, 17] [18, 19, 20, 21, 22, 23, 24, 25, 26, 27, 28, 29, 30, 31, 32, 33, 34, 35, 36, 37, 38, 39, 40, 41, 42, 43, 44, 45, 46, 47, 48, 49, 50, 51, 52, 53, 54, 55, 56, 57, 58, 59, 60, 61, 62, 63, 64, 65, 66, 67, 68, 69, 70, 71, 72, 73, 74, 75, 76, 77, 78, 79, 80, 81, 82, 83, 84, 85, 86, 87, 88, 89, 90, 91, 92, 93, 94, 95, 96, 97, 98, 99, 100, 101, 102, 103] [86, 87, 88, 89, 90, 91, 92, 93, 94, 95, 96, 97, 98, 99, 100, 101, 102, 103, 0, 1, 2, 3, 4, 5, 6, 7, 8, 9, 10, 11, 12, 13, 14, 15, 16, 17, 18, 19, 20, 21, 22, 23, 24, 25, 26, 27, 28, 29, 30, 31, 32, 33, 34, 35, 36, 37, 38, 39, 40, 41, 42, 43, 44, 45, 46, 47, 48, 49, 50, 51, 52, 53, 54, 55, 56, 57, 58, 59, 60, 61, 62, 63, 64, 65, 66, 67, 68, 69, 70, 71, 72, 73, 74, 75, 76, 77, 78, 79, 80, 81, 82, 83, 84, 85] rfl (Wr := wX3 q (ad 2) (z18.2.1 2) ++ (wX3 q (ad 3) (z18.2.1 3) ++ (wX3 q (ad 4) (z18.2.1 4) ++ (wX0 q (ad 5) (z18.2.1 5) (ad 6 99) ++ (wX3 q (ad 6) (z18.2.1 6) ++ (wX1 q (ad 7) (z18.2.1 7) ++ (wX4 q (ad 8) (z18.2.1 8) (ad 1 99) (ad 7 99) ++ (wX2 q (ad 9) (z18.2.1 9) ++ (wX2 q (ad 10) (z18.2.1 10) ++ (wX2 q (ad 11) (z18.2.1 11) ++ (wX2 q (ad 12) (z18.2.1 12) ++ wX6 q a z18.2.2))))))))))) rfl (by decide) (by decide) (by decide) (by decide) (fun _ => rfl) 0 rfl rfl rfl k_596 mX5_worth ⟨rfl, rfl⟩ ⟨Nat.le_of_ble_eq_true rfl, Nat.le_of_ble_eq_true rfl⟩ rfl rfl (Nat.le_of_ble_eq_true rfl) dL_law_568 ⟨Nat.le_of_ble_eq_true rfl, Nat.le_of_ble_eq_true rfl⟩ (fun H70 locs70 hP hD hS70 => ?_)
                                    have hP70 : va_P D cls (wX5 q ad (z18.2.1 0) ++ (wX3 q (ad 1) y568.2 ++ (wX3 q (ad 2) (z18.2.1 2) ++ (wX3 q (ad 3) (z18.2.1 3) ++ (wX3 q (ad 4) (z18.2.1 4) ++ (wX0 q (ad 5) (z18.2.1 5) (ad 6 99) ++ (wX3 q (ad 6) (z18.2.1 6) ++ (wX1 q (ad 7) (z18.2.1 7) ++ (wX4 q (ad 8) (z18.2.1 8) (ad 1 99) (ad 7 99) ++ (wX2 q (ad 9) (z18.2.1 9) ++ (wX2 q (ad 10) (z18.2.1 10) ++ (wX2 q (ad 11) (z18.2.1 11) ++ (wX2 q (ad 12) (z18.2.1 12) ++ wX6 q a z18.2.2))))))))))))) H70 := hP
                                    have hD70 : va_D (fun z : Nat => s.heap.size ≤ z) (wX5 q ad (z18.2.1 0) ++ (wX3 q (ad 1) y568.2 ++ (wX3 q (ad 2) (z18.2.1 2) ++ (wX3 q (ad 3) (z18.2.1 3) ++ (wX3 q (ad 4) (z18.2.1 4) ++ (wX0 q (ad 5) (z18.2.1 5) (ad 6 99) ++ (wX3 q (ad 6) (z18.2.1 6) ++ (wX1 q (ad 7) (z18.2.1 7) ++ (wX4 q (ad 8) (z18.2.1 8) (ad 1 99) (ad 7 99) ++ (wX2 q (ad 9) (z18.2.1 9) ++ (wX2 q (ad 10) (z18.2.1 10) ++ (wX2 q (ad 11) (z18.2.1 11) ++ (wX2 q (ad 12) (z18.2.1 12) ++ wX6 q a z18.2.2))))))))))))) := hD
                                    clear hP hD hP3 hD3 hS3
                                    refine lv_aload_n hx hb dL_law_571 rfl (lv_at hl2 0 rfl) ?_
                                    refine lv_aload_n hx hb dL_law_572 rfl (lv_at hl2 2 rfl) ?_
                                    refine lv_iload_n hx hb dL_law_573 rfl (lv_at hl2 3 rfl) ?_
                                    refine lv_iconst (v := (1 : Int32)) hx hb dL_law_574 (by decide) ?_
                                    refine lv_iadd hx hb dL_law_575 ?_
                                    obtain ⟨h71, hm⟩ := ckd hm
                                    refine va_sld hx hb hX hbl hbA hS70 (inB_vp h71) dL_law_576 ?_
                                    refine lv_aload_n hx hb dL_law_577 rfl (lv_at hl2 2 rfl) ?_
                                    refine lv_iload_n hx hb dL_law_578 rfl (lv_at hl2 3 rfl) ?_
                                    refine lv_iconst (v := (2 : Int32)) hx hb dL_law_579 (by decide) ?_
                                    refine lv_iadd hx hb dL_law_580 ?_
                                    obtain ⟨h72, hm⟩ := ckd hm
                                    refine va_sld hx hb hX hbl hbA hS70 (inB_vp h72) dL_law_581 ?_
                                    obtain ⟨y582, hy582, hm⟩ := bn hm
                                    refine cVWi (As := [.int (xs ((z18.1 + (1 : Int32))).toNatClampNeg), .int (xs ((z18.1 + (2 : Int32))).toNatClampNeg)]) (rest := [.int y568.1]) (Wn := fun (uu : SV) => wX5 q ad (z18.2.1 0) ++ (wX3 q (ad 1) y568.2 ++ (wX3 q (ad 2) (z18.2.1 2) ++ (wX3 q (ad 3) (z18.2.1 3) ++ (wX3 q (ad 4) (z18.2.1 4) ++ (wX0 q (ad 5) (z18.2.1 5) (ad 6 99) ++ (wX3 q (ad 6) (z18.2.1 6) ++ (wX1 q (ad 7) (z18.2.1 7) ++ (wX4 q (ad 8) (z18.2.1 8) (ad 1 99) (ad 7 99) ++ (wX2 q (ad 9) (z18.2.1 9) ++ (wX2 q (ad 10) (z18.2.1 10) ++ (wX2 q (ad 11) (z18.2.1 11) ++ (wX2 q (ad 12) (z18.2.1 12) ++ wX6 q a uu))))))))))))) X hP70 hD70 hS70 (fun _ h => h) hl2.1 (c_X6_worth l D q H70.size a z18.2.2 (xs ((z18.1 + (1 : Int32))).toNatClampNeg) (xs ((z18.1 + (2 : Int32))).toNatClampNeg) y582 hy582) [86, 87, 88, 89, 90, 91, 92, 93, 94, 95, 96, 97, 98, 99, 100, 101, 102, 103] [0, 1, 2, 3, 4, 5, 6, 7, 8, 9, 10, 11, 12, 13, 14, 15, 16, 17, 18, 19, 20, 21, 22, 23, 24, 25, 26, 27, 28, 29, 30, 31, 32, 33, 34, 35, 36, 37, 38, 39, 40, 41, 42, 43, 44, 45, 46, 47, 48, 49, 50, 51, 52, 53, 54, 55, 56, 57, 58, 59, 60, 61, 62, 63, 64, 65, 66, 67, 68, 69, 70, 71, 72, 73, 74, 75, 76, 77, 78, 79, 80, 81, 82, 83, 84, 85] [0, 1, 2, 3, 4, 5, 6, 7, 8, 9, 10, 11, 12, 13, 14, 15, 16, 17, 18, 19, 20, 21, 22, 23, 24, 25, 26, 27, 28, 29, 30, 31, 32, 33, 34, 35, 36, 37, 38, 39, 40, 41, 42, 43, 44, 45, 46, 47, 48, 49, 50, 51, 52, 53, 54, 55, 56, 57, 58, 59, 60, 61, 62, 63, 64, 65, 66, 67, 68, 69, 70, 71, 72, 73, 74, 75, 76, 77, 78, 79, 80, 81, 82, 83, 84, 85, 86, 87, 88, 89, 90, 91, 92, 93, 94, 95, 96, 97, 98, 99, 100, 101, 102, 103] rfl (Wr := wX5 q ad (z18.2.1 0) ++ (wX3 q (ad 1) y568.2 ++ (wX3 q (ad 2) (z18.2.1 2) ++ (wX3 q (ad 3) (z18.2.1 3) ++ (wX3 q (ad 4) (z18.2.1 4) ++ (wX0 q (ad 5) (z18.2.1 5) (ad 6 99) ++ (wX3 q (ad 6) (z18.2.1 6) ++ (wX1 q (ad 7) (z18.2.1 7) ++ (wX4 q (ad 8) (z18.2.1 8) (ad 1 99) (ad 7 99) ++ (wX2 q (ad 9) (z18.2.1 9) ++ (wX2 q (ad 10) (z18.2.1 10) ++ (wX2 q (ad 11) (z18.2.1 11) ++ wX2 q (ad 12) (z18.2.1 12))))))))))))) rfl (by decide) (by decide) (by decide) (by decide) (fun _ => rfl) 86 rfl rfl rfl k_1157 mX6_worth ⟨rfl, rfl⟩ ⟨Nat.le_of_ble_eq_true rfl, Nat.le_of_ble_eq_true rfl⟩ rfl rfl (Nat.le_of_ble_eq_true rfl) dL_law_582 ⟨Nat.le_of_ble_eq_true rfl, Nat.le_of_ble_eq_true rfl⟩ (fun H73 locs73 hP hD hS73 => ?_)
                                    have hP73 : va_P D cls (wX5 q ad (z18.2.1 0) ++ (wX3 q (ad 1) y568.2 ++ (wX3 q (ad 2) (z18.2.1 2) ++ (wX3 q (ad 3) (z18.2.1 3) ++ (wX3 q (ad 4) (z18.2.1 4) ++ (wX0 q (ad 5) (z18.2.1 5) (ad 6 99) ++ (wX3 q (ad 6) (z18.2.1 6) ++ (wX1 q (ad 7) (z18.2.1 7) ++ (wX4 q (ad 8) (z18.2.1 8) (ad 1 99) (ad 7 99) ++ (wX2 q (ad 9) (z18.2.1 9) ++ (wX2 q (ad 10) (z18.2.1 10) ++ (wX2 q (ad 11) (z18.2.1 11) ++ (wX2 q (ad 12) (z18.2.1 12) ++ wX6 q a y582.2))))))))))))) H73 := hP
                                    have hD73 : va_D (fun z : Nat => s.heap.size ≤ z) (wX5 q ad (z18.2.1 0) ++ (wX3 q (ad 1) y568.2 ++ (wX3 q (ad 2) (z18.2.1 2) ++ (wX3 q (ad 3) (z18.2.1 3) ++ (wX3 q (ad 4) (z18.2.1 4) ++ (wX0 q (ad 5) (z18.2.1 5) (ad 6 99) ++ (wX3 q (ad 6) (z18.2.1 6) ++ (wX1 q (ad 7) (z18.2.1 7) ++ (wX4 q (ad 8) (z18.2.1 8) (ad 1 99) (ad 7 99) ++ (wX2 q (ad 9) (z18.2.1 9) ++ (wX2 q (ad 10) (z18.2.1 10) ++ (wX2 q (ad 11) (z18.2.1 11) ++ (wX2 q (ad 12) (z18.2.1 12) ++ wX6 q a y582.2))))))))))))) := hD
                                    clear hP hD hP70 hD70 hS70
                                    refine lv_icmp_eq (tgt := 1367) hx hb dL_law_585 (by decide) (fun c585 => ?_) (fun c585 => ?_)
                                    · replace hm := tp hm c585
                                      refine lv_iinc (v := (z18.1 + (5 : Int32))) (lv' := [(3, .int (z18.1 + (5 : Int32))), (2, .ref (a 99)), (1, .ref (ad 0 99)), (0, .ref b)]) hx hb dL_law_1367 hl2 (k := 3) rfl rfl (by decide) rfl (fun ls74 hl74 => ?_)
                                      clear hl2
                                      refine lv_goto (tgt := 18) hx hb dL_law_1370 (by decide) ?_
                                      cases hm
                                      exact ih18 ((z18.1 + (5 : Int32)), (mkG (z18.2.1 0) y568.2 (z18.2.1 2) (z18.2.1 3) (z18.2.1 4) (z18.2.1 5) (z18.2.1 6) (z18.2.1 7) (z18.2.1 8) (z18.2.1 9) (z18.2.1 10) (z18.2.1 11) (z18.2.1 12)), y582.2) ρ18 hz18 hK18 _ _ hP73 hD73 hS73 _ (lv_sub hl74 [1, 2, 3, 0] rfl)
                                    · replace hm := tn hm c585
                                      refine lv_iconst (v := (0 : Int32)) hx hb dL_law_588 (by decide) ?_
                                      cases hm
                                      cases hz18
                                      have hm : (some (0 : Int32) : Option Int32) = some (1 : Int32) := hK18
                                      exact absurd (Option.some.inj hm) (by decide)
                                  · replace hm := tn hm c32_13
                                    by_cases c32_14 : ((xs (z18.1).toNatClampNeg) &&& (63 : Int32)) = (14 : Int32)
                                    · replace hm := tp hm c32_14
                                      refine lv_tableIn (off := 558) (tgt := 590) hx hb dL_law_32 (by rw [c32_14]; decide) (by rw [c32_14]; decide) (by rw [c32_14]; rfl) (by decide) ?_
                                      refine lv_aload_n hx hb dL_law_590 rfl (lv_at hl2 1 rfl) ?_
                                      refine lv_aload_n hx hb dL_law_591 rfl (lv_at hl2 2 rfl) ?_
                                      refine lv_iload_n hx hb dL_law_592 rfl (lv_at hl2 3 rfl) ?_
                                      refine lv_iconst (v := (1 : Int32)) hx hb dL_law_593 (by decide) ?_
                                      refine lv_iadd hx hb dL_law_594 ?_
                                      obtain ⟨h75, hm⟩ := ckd hm
                                      refine va_sld hx hb hX hbl hbA hS3 (inB_vp h75) dL_law_595 ?_
                                      refine lv_aload_n hx hb dL_law_596 rfl (lv_at hl2 2 rfl) ?_
                                      refine lv_iload_n hx hb dL_law_597 rfl (lv_at hl2 3 rfl) ?_
                                      refine lv_iconst (v := (2 : Int32)) hx hb dL_law_598 (by decide) ?_
                                      refine lv_iadd hx hb dL_law_599 ?_
                                      obtain ⟨h76, hm⟩ := ckd hm
                                      refine va_sld hx hb hX hbl hbA hS3 (inB_vp h76) dL_law_600 ?_
                                      obtain ⟨y601, hy601, hm⟩ := bn hm
                                      refine cVRi (As := [.int (xs ((z18.1 + (1 : Int32))).toNatClampNeg), .int (xs ((z18.1 + (2 : Int32))).toNatClampNeg)]) (rest := []) X hP3 hl2.1 (c_X5_like l D q ad (z18.2.1 0) (z18.2.1 1) (xs ((z18.1 + (1 : Int32))).toNatClampNeg) (xs ((z18.1 + (2 : Int32))).toNatClampNeg) y601 hy601) [0, 1, 2, 3, 4, 5, 6, 7, 8, 9, 10, 11, 12, 13, 14, 15, 16, 17] rfl 0 rfl rfl rfl k_600 mX5_like ⟨rfl, rfl⟩ ⟨Nat.le_of_ble_eq_true rfl, Nat.le_of_ble_eq_true rfl⟩ rfl rfl (Nat.le_of_ble_eq_true rfl) dL_law_601 ⟨Nat.le_of_ble_eq_true rfl, Nat.le_of_ble_eq_true rfl⟩ ?_
                                      refine lv_aload_n hx hb dL_law_604 rfl (lv_at hl2 0 rfl) ?_
                                      refine lv_aload_n hx hb dL_law_605 rfl (lv_at hl2 2 rfl) ?_
                                      refine lv_iload_n hx hb dL_law_606 rfl (lv_at hl2 3 rfl) ?_
                                      refine lv_iconst (v := (1 : Int32)) hx hb dL_law_607 (by decide) ?_
                                      refine lv_iadd hx hb dL_law_608 ?_
                                      obtain ⟨h77, hm⟩ := ckd hm
                                      refine va_sld hx hb hX hbl hbA hS3 (inB_vp h77) dL_law_609 ?_
                                      refine lv_aload_n hx hb dL_law_610 rfl (lv_at hl2 2 rfl) ?_
                                      refine lv_iload_n hx hb dL_law_611 rfl (lv_at hl2 3 rfl) ?_
                                      refine lv_iconst (v := (2 : Int32)) hx hb dL_law_612 (by decide) ?_
                                      refine lv_iadd hx hb dL_law_613 ?_
                                      obtain ⟨h78, hm⟩ := ckd hm
                                      refine va_sld hx hb hX hbl hbA hS3 (inB_vp h78) dL_law_614 ?_
                                      obtain ⟨y615, hy615, hm⟩ := bn hm
                                      refine cVRi (As := [.int (xs ((z18.1 + (1 : Int32))).toNatClampNeg), .int (xs ((z18.1 + (2 : Int32))).toNatClampNeg)]) (rest := [.int y601]) X hP3 hl2.1 (c_X6_like l D q a z18.2.2 (xs ((z18.1 + (1 : Int32))).toNatClampNeg) (xs ((z18.1 + (2 : Int32))).toNatClampNeg) y615 hy615) [86, 87, 88, 89, 90, 91, 92, 93, 94, 95, 96, 97, 98, 99, 100, 101, 102, 103] rfl 86 rfl rfl rfl k_1162 mX6_like ⟨rfl, rfl⟩ ⟨Nat.le_of_ble_eq_true rfl, Nat.le_of_ble_eq_true rfl⟩ rfl rfl (Nat.le_of_ble_eq_true rfl) dL_law_615 ⟨Nat.le_of_ble_eq_true rfl, Nat.le_of_ble_eq_true rfl⟩ ?_
                                      refine lv_icmp_eq (tgt := 1367) hx hb dL_law_618 (by decide) (fun c618 => ?_) (fun c618 => ?_)
                                      · replace hm := tp hm c618
                                        refine lv_iinc (v := (z18.1 + (5 : Int32))) (lv' := [(3, .int (z18.1 + (5 : Int32))), (2, .ref (a 99)), (1, .ref (ad 0 99)), (0, .ref b)]) hx hb dL_law_1367 hl2 (k := 3) rfl rfl (by decide) rfl (fun ls79 hl79 => ?_)
                                        clear hl2
                                        refine lv_goto (tgt := 18) hx hb dL_law_1370 (by decide) ?_
                                        cases hm
                                        exact ih18 ((z18.1 + (5 : Int32)), z18.2.1, z18.2.2) ρ18 hz18 hK18 _ _ hP3 hD3 hS3 _ (lv_sub hl79 [1, 2, 3, 0] rfl)
                                      · replace hm := tn hm c618
                                        refine lv_iconst (v := (0 : Int32)) hx hb dL_law_621 (by decide) ?_
                                        cases hm
                                        cases hz18
                                        have hm : (some (0 : Int32) : Option Int32) = some (1 : Int32) := hK18
                                        exact absurd (Option.some.inj hm) (by decide)
                                    · replace hm := tn hm c32_14
                                      by_cases c32_15 : ((xs (z18.1).toNatClampNeg) &&& (63 : Int32)) = (15 : Int32)
                                      · replace hm := tp hm c32_15
                                        refine lv_tableIn (off := 591) (tgt := 623) hx hb dL_law_32 (by rw [c32_15]; decide) (by rw [c32_15]; decide) (by rw [c32_15]; rfl) (by decide) ?_
                                        refine lv_aload_n hx hb dL_law_623 rfl (lv_at hl2 1 rfl) ?_
                                        refine lv_aload_n hx hb dL_law_624 rfl (lv_at hl2 2 rfl) ?_
                                        refine lv_iload_n hx hb dL_law_625 rfl (lv_at hl2 3 rfl) ?_
                                        refine lv_iconst (v := (1 : Int32)) hx hb dL_law_626 (by decide) ?_
                                        refine lv_iadd hx hb dL_law_627 ?_
                                        obtain ⟨h80, hm⟩ := ckd hm
                                        refine va_sld hx hb hX hbl hbA hS3 (inB_vp h80) dL_law_628 ?_
                                        obtain ⟨y629, hy629, hm⟩ := bn hm
                                        refine cVWi (As := [.int (xs ((z18.1 + (1 : Int32))).toNatClampNeg)]) (rest := []) (Wn := fun (uu : SV) => wX5 q ad (z18.2.1 0) ++ (wX3 q (ad 1) uu ++ (wX3 q (ad 2) (z18.2.1 2) ++ (wX3 q (ad 3) (z18.2.1 3) ++ (wX3 q (ad 4) (z18.2.1 4) ++ (wX0 q (ad 5) (z18.2.1 5) (ad 6 99) ++ (wX3 q (ad 6) (z18.2.1 6) ++ (wX1 q (ad 7) (z18.2.1 7) ++ (wX4 q (ad 8) (z18.2.1 8) (ad 1 99) (ad 7 99) ++ (wX2 q (ad 9) (z18.2.1 9) ++ (wX2 q (ad 10) (z18.2.1 10) ++ (wX2 q (ad 11) (z18.2.1 11) ++ (wX2 q (ad 12) (z18.2.1 12) ++ wX6 q a z18.2.2))))))))))))) X hP3 hD3 hS3 (fun _ h => h) hl2.1 (c_X5_go l D q H3.size ad (z18.2.1 0) (z18.2.1 1) (xs ((z18.1 + (1 : Int32))).toNatClampNeg) y629 hy629) [0, 1, 2, 3, 4, 5, 6, 7, 8, 9, 10, 11, 12, 13, 14, 15, 16, 17] [18, 19, 20, 21, 22, 23, 24, 25, 26, 27, 28, 29, 30, 31, 32, 33, 34, 35, 36, 37, 38, 39, 40, 41, 42, 43, 44, 45, 46, 47, 48, 49, 50, 51, 52, 53, 54, 55, 56, 57, 58, 59, 60, 61, 62, 63, 64, 65, 66, 67, 68, 69, 70, 71, 72, 73, 74, 75, 76, 77, 78, 79, 80, 81, 82, 83, 84, 85, 86, 87, 88, 89, 90, 91, 92, 93, 94, 95, 96, 97, 98, 99, 100, 101, 102, 103] [86, 87, 88, 89, 90, 91, 92, 93, 94, 95, 96, 97, 98, 99, 100, 101, 102, 103, 0, 1, 2, 3, 4, 5, 6, 7, 8, 9, 10, 11, 12, 13, 14, 15, 16, 17, 18, 19, 20, 21, 22, 23, 24, 25, 26, 27, 28, 29, 30, 31, 32, 33, 34, 35, 36, 37, 38, 39, 40, 41, 42, 43, 44, 45, 46, 47, 48, 49, 50, 51, 52, 53, 54, 55, 56, 57, 58, 59, 60, 61, 62, 63, 64, 65, 66, 67, 68, 69, 70, 71, 72, 73, 74, 75, 76, 77, 78, 79, 80, 81, 82, 83, 84, 85] rfl (Wr := wX3 q (ad 2) (z18.2.1 2) ++ (wX3 q (ad 3) (z18.2.1 3) ++ (wX3 q (ad 4) (z18.2.1 4) ++ (wX0 q (ad 5) (z18.2.1 5) (ad 6 99) ++ (wX3 q (ad 6) (z18.2.1 6) ++ (wX1 q (ad 7) (z18.2.1 7) ++ (wX4 q (ad 8) (z18.2.1 8) (ad 1 99) (ad 7 99) ++ (wX2 q (ad 9) (z18.2.1 9) ++ (wX2 q (ad 10) (z18.2.1 10) ++ (wX2 q (ad 11) (z18.2.1 11) ++ (wX2 q (ad 12) (z18.2.1 12) ++ wX6 q a z18.2.2))))))))))) rfl (by decide) (by decide) (by decide) (by decide) (fun _ => rfl) 0 rfl rfl rfl k_605 mX5_go ⟨rfl, rfl⟩ ⟨Nat.le_of_ble_eq_true rfl, Nat.le_of_ble_eq_true rfl⟩ rfl rfl (Nat.le_of_ble_eq_true rfl) dL_law_629 ⟨Nat.le_of_ble_eq_true rfl, Nat.le_of_ble_eq_true rfl⟩ (fun H81 locs81 hP hD hS81 => ?_)
                                        have hP81 : va_P D cls (wX5 q ad (z18.2.1 0) ++ (wX3 q (ad 1) y629.2 ++ (wX3 q (ad 2) (z18.2.1 2) ++ (wX3 q (ad 3) (z18.2.1 3) ++ (wX3 q (ad 4) (z18.2.1 4) ++ (wX0 q (ad 5) (z18.2.1 5) (ad 6 99) ++ (wX3 q (ad 6) (z18.2.1 6) ++ (wX1 q (ad 7) (z18.2.1 7) ++ (wX4 q (ad 8) (z18.2.1 8) (ad 1 99) (ad 7 99) ++ (wX2 q (ad 9) (z18.2.1 9) ++ (wX2 q (ad 10) (z18.2.1 10) ++ (wX2 q (ad 11) (z18.2.1 11) ++ (wX2 q (ad 12) (z18.2.1 12) ++ wX6 q a z18.2.2))))))))))))) H81 := hP
                                        have hD81 : va_D (fun z : Nat => s.heap.size ≤ z) (wX5 q ad (z18.2.1 0) ++ (wX3 q (ad 1) y629.2 ++ (wX3 q (ad 2) (z18.2.1 2) ++ (wX3 q (ad 3) (z18.2.1 3) ++ (wX3 q (ad 4) (z18.2.1 4) ++ (wX0 q (ad 5) (z18.2.1 5) (ad 6 99) ++ (wX3 q (ad 6) (z18.2.1 6) ++ (wX1 q (ad 7) (z18.2.1 7) ++ (wX4 q (ad 8) (z18.2.1 8) (ad 1 99) (ad 7 99) ++ (wX2 q (ad 9) (z18.2.1 9) ++ (wX2 q (ad 10) (z18.2.1 10) ++ (wX2 q (ad 11) (z18.2.1 11) ++ (wX2 q (ad 12) (z18.2.1 12) ++ wX6 q a z18.2.2))))))))))))) := hD
                                        clear hP hD hP3 hD3 hS3
                                        refine lv_aload_n hx hb dL_law_632 rfl (lv_at hl2 0 rfl) ?_
                                        refine lv_aload_n hx hb dL_law_633 rfl (lv_at hl2 2 rfl) ?_
                                        refine lv_iload_n hx hb dL_law_634 rfl (lv_at hl2 3 rfl) ?_
                                        refine lv_iconst (v := (1 : Int32)) hx hb dL_law_635 (by decide) ?_
                                        refine lv_iadd hx hb dL_law_636 ?_
                                        obtain ⟨h82, hm⟩ := ckd hm
                                        refine va_sld hx hb hX hbl hbA hS81 (inB_vp h82) dL_law_637 ?_
                                        obtain ⟨y638, hy638, hm⟩ := bn hm
                                        refine cVWi (As := [.int (xs ((z18.1 + (1 : Int32))).toNatClampNeg)]) (rest := [.int y629.1]) (Wn := fun (uu : SV) => wX5 q ad (z18.2.1 0) ++ (wX3 q (ad 1) y629.2 ++ (wX3 q (ad 2) (z18.2.1 2) ++ (wX3 q (ad 3) (z18.2.1 3) ++ (wX3 q (ad 4) (z18.2.1 4) ++ (wX0 q (ad 5) (z18.2.1 5) (ad 6 99) ++ (wX3 q (ad 6) (z18.2.1 6) ++ (wX1 q (ad 7) (z18.2.1 7) ++ (wX4 q (ad 8) (z18.2.1 8) (ad 1 99) (ad 7 99) ++ (wX2 q (ad 9) (z18.2.1 9) ++ (wX2 q (ad 10) (z18.2.1 10) ++ (wX2 q (ad 11) (z18.2.1 11) ++ (wX2 q (ad 12) (z18.2.1 12) ++ wX6 q a uu))))))))))))) X hP81 hD81 hS81 (fun _ h => h) hl2.1 (c_X6_go l D q H81.size a z18.2.2 (xs ((z18.1 + (1 : Int32))).toNatClampNeg) y638 hy638) [86, 87, 88, 89, 90, 91, 92, 93, 94, 95, 96, 97, 98, 99, 100, 101, 102, 103] [0, 1, 2, 3, 4, 5, 6, 7, 8, 9, 10, 11, 12, 13, 14, 15, 16, 17, 18, 19, 20, 21, 22, 23, 24, 25, 26, 27, 28, 29, 30, 31, 32, 33, 34, 35, 36, 37, 38, 39, 40, 41, 42, 43, 44, 45, 46, 47, 48, 49, 50, 51, 52, 53, 54, 55, 56, 57, 58, 59, 60, 61, 62, 63, 64, 65, 66, 67, 68, 69, 70, 71, 72, 73, 74, 75, 76, 77, 78, 79, 80, 81, 82, 83, 84, 85] [0, 1, 2, 3, 4, 5, 6, 7, 8, 9, 10, 11, 12, 13, 14, 15, 16, 17, 18, 19, 20, 21, 22, 23, 24, 25, 26, 27, 28, 29, 30, 31, 32, 33, 34, 35, 36, 37, 38, 39, 40, 41, 42, 43, 44, 45, 46, 47, 48, 49, 50, 51, 52, 53, 54, 55, 56, 57, 58, 59, 60, 61, 62, 63, 64, 65, 66, 67, 68, 69, 70, 71, 72, 73, 74, 75, 76, 77, 78, 79, 80, 81, 82, 83, 84, 85, 86, 87, 88, 89, 90, 91, 92, 93, 94, 95, 96, 97, 98, 99, 100, 101, 102, 103] rfl (Wr := wX5 q ad (z18.2.1 0) ++ (wX3 q (ad 1) y629.2 ++ (wX3 q (ad 2) (z18.2.1 2) ++ (wX3 q (ad 3) (z18.2.1 3) ++ (wX3 q (ad 4) (z18.2.1 4) ++ (wX0 q (ad 5) (z18.2.1 5) (ad 6 99) ++ (wX3 q (ad 6) (z18.2.1 6) ++ (wX1 q (ad 7) (z18.2.1 7) ++ (wX4 q (ad 8) (z18.2.1 8) (ad 1 99) (ad 7 99) ++ (wX2 q (ad 9) (z18.2.1 9) ++ (wX2 q (ad 10) (z18.2.1 10) ++ (wX2 q (ad 11) (z18.2.1 11) ++ wX2 q (ad 12) (z18.2.1 12))))))))))))) rfl (by decide) (by decide) (by decide) (by decide) (fun _ => rfl) 86 rfl rfl rfl k_1166 mX6_go ⟨rfl, rfl⟩ ⟨Nat.le_of_ble_eq_true rfl, Nat.le_of_ble_eq_true rfl⟩ rfl rfl (Nat.le_of_ble_eq_true rfl) dL_law_638 ⟨Nat.le_of_ble_eq_true rfl, Nat.le_of_ble_eq_true rfl⟩ (fun H83 locs83 hP hD hS83 => ?_)
                                        have hP83 : va_P D cls (wX5 q ad (z18.2.1 0) ++ (wX3 q (ad 1) y629.2 ++ (wX3 q (ad 2) (z18.2.1 2) ++ (wX3 q (ad 3) (z18.2.1 3) ++ (wX3 q (ad 4) (z18.2.1 4) ++ (wX0 q (ad 5) (z18.2.1 5) (ad 6 99) ++ (wX3 q (ad 6) (z18.2.1 6) ++ (wX1 q (ad 7) (z18.2.1 7) ++ (wX4 q (ad 8) (z18.2.1 8) (ad 1 99) (ad 7 99) ++ (wX2 q (ad 9) (z18.2.1 9) ++ (wX2 q (ad 10) (z18.2.1 10) ++ (wX2 q (ad 11) (z18.2.1 11) ++ (wX2 q (ad 12) (z18.2.1 12) ++ wX6 q a y638.2))))))))))))) H83 := hP
                                        have hD83 : va_D (fun z : Nat => s.heap.size ≤ z) (wX5 q ad (z18.2.1 0) ++ (wX3 q (ad 1) y629.2 ++ (wX3 q (ad 2) (z18.2.1 2) ++ (wX3 q (ad 3) (z18.2.1 3) ++ (wX3 q (ad 4) (z18.2.1 4) ++ (wX0 q (ad 5) (z18.2.1 5) (ad 6 99) ++ (wX3 q (ad 6) (z18.2.1 6) ++ (wX1 q (ad 7) (z18.2.1 7) ++ (wX4 q (ad 8) (z18.2.1 8) (ad 1 99) (ad 7 99) ++ (wX2 q (ad 9) (z18.2.1 9) ++ (wX2 q (ad 10) (z18.2.1 10) ++ (wX2 q (ad 11) (z18.2.1 11) ++ (wX2 q (ad 12) (z18.2.1 12) ++ wX6 q a y638.2))))))))))))) := hD
                                        clear hP hD hP81 hD81 hS81
                                        refine lv_icmp_eq (tgt := 1367) hx hb dL_law_641 (by decide) (fun c641 => ?_) (fun c641 => ?_)
                                        · replace hm := tp hm c641
                                          refine lv_iinc (v := (z18.1 + (5 : Int32))) (lv' := [(3, .int (z18.1 + (5 : Int32))), (2, .ref (a 99)), (1, .ref (ad 0 99)), (0, .ref b)]) hx hb dL_law_1367 hl2 (k := 3) rfl rfl (by decide) rfl (fun ls84 hl84 => ?_)
                                          clear hl2
                                          refine lv_goto (tgt := 18) hx hb dL_law_1370 (by decide) ?_
                                          cases hm
                                          exact ih18 ((z18.1 + (5 : Int32)), (mkG (z18.2.1 0) y629.2 (z18.2.1 2) (z18.2.1 3) (z18.2.1 4) (z18.2.1 5) (z18.2.1 6) (z18.2.1 7) (z18.2.1 8) (z18.2.1 9) (z18.2.1 10) (z18.2.1 11) (z18.2.1 12)), y638.2) ρ18 hz18 hK18 _ _ hP83 hD83 hS83 _ (lv_sub hl84 [1, 2, 3, 0] rfl)
                                        · replace hm := tn hm c641
                                          refine lv_iconst (v := (0 : Int32)) hx hb dL_law_644 (by decide) ?_
                                          cases hm
                                          cases hz18
                                          have hm : (some (0 : Int32) : Option Int32) = some (1 : Int32) := hK18
                                          exact absurd (Option.some.inj hm) (by decide)
                                      · replace hm := tn hm c32_15
                                        by_cases c32_16 : ((xs (z18.1).toNatClampNeg) &&& (63 : Int32)) = (16 : Int32)
                                        · replace hm := tp hm c32_16
                                          refine lv_tableIn (off := 614) (tgt := 646) hx hb dL_law_32 (by rw [c32_16]; decide) (by rw [c32_16]; decide) (by rw [c32_16]; rfl) (by decide) ?_
                                          refine lv_aload_n hx hb dL_law_646 rfl (lv_at hl2 1 rfl) ?_
                                          refine lv_aload_n hx hb dL_law_647 rfl (lv_at hl2 2 rfl) ?_
                                          refine lv_iload_n hx hb dL_law_648 rfl (lv_at hl2 3 rfl) ?_
                                          refine lv_iconst (v := (1 : Int32)) hx hb dL_law_649 (by decide) ?_
                                          refine lv_iadd hx hb dL_law_650 ?_
                                          obtain ⟨h85, hm⟩ := ckd hm
                                          refine va_sld hx hb hX hbl hbA hS3 (inB_vp h85) dL_law_651 ?_
                                          refine lv_aload_n hx hb dL_law_652 rfl (lv_at hl2 2 rfl) ?_
                                          refine lv_iload_n hx hb dL_law_653 rfl (lv_at hl2 3 rfl) ?_
                                          refine lv_iconst (v := (2 : Int32)) hx hb dL_law_654 (by decide) ?_
                                          refine lv_iadd hx hb dL_law_655 ?_
                                          obtain ⟨h86, hm⟩ := ckd hm
                                          refine va_sld hx hb hX hbl hbA hS3 (inB_vp h86) dL_law_656 ?_
                                          refine lv_aload_n hx hb dL_law_657 rfl (lv_at hl2 2 rfl) ?_
                                          refine lv_iload_n hx hb dL_law_658 rfl (lv_at hl2 3 rfl) ?_
                                          refine lv_iconst (v := (3 : Int32)) hx hb dL_law_659 (by decide) ?_
                                          refine lv_iadd hx hb dL_law_660 ?_
                                          obtain ⟨h87, hm⟩ := ckd hm
                                          refine va_sld hx hb hX hbl hbA hS3 (inB_vp h87) dL_law_661 ?_
                                          obtain ⟨y662, hy662, hm⟩ := bn hm
                                          refine cVWi (As := [.int (xs ((z18.1 + (1 : Int32))).toNatClampNeg), .int (xs ((z18.1 + (2 : Int32))).toNatClampNeg), .int (xs ((z18.1 + (3 : Int32))).toNatClampNeg)]) (rest := []) (Wn := fun (uu : SV) => wX5 q ad (z18.2.1 0) ++ (wX3 q (ad 1) (z18.2.1 1) ++ (wX3 q (ad 2) uu ++ (wX3 q (ad 3) (z18.2.1 3) ++ (wX3 q (ad 4) (z18.2.1 4) ++ (wX0 q (ad 5) (z18.2.1 5) (ad 6 99) ++ (wX3 q (ad 6) (z18.2.1 6) ++ (wX1 q (ad 7) (z18.2.1 7) ++ (wX4 q (ad 8) (z18.2.1 8) (ad 1 99) (ad 7 99) ++ (wX2 q (ad 9) (z18.2.1 9) ++ (wX2 q (ad 10) (z18.2.1 10) ++ (wX2 q (ad 11) (z18.2.1 11) ++ (wX2 q (ad 12) (z18.2.1 12) ++ wX6 q a z18.2.2))))))))))))) X hP3 hD3 hS3 (fun _ h => h) hl2.1 (c_X5_ahead l D q H3.size ad (z18.2.1 0) (z18.2.1 1) (z18.2.1 2) (xs ((z18.1 + (1 : Int32))).toNatClampNeg) (xs ((z18.1 + (2 : Int32))).toNatClampNeg) (xs ((z18.1 + (3 : Int32))).toNatClampNeg) y662 hy662) [0, 1, 2, 3, 4, 5, 6, 7, 8, 9, 10, 11, 12, 13, 14, 15, 16, 17, 18, 19, 20, 21, 22, 23, 24, 25, 26, 27, 28, 29] [30, 31, 32, 33, 34, 35, 36, 37, 38, 39, 40, 41, 42, 43, 44, 45, 46, 47, 48, 49, 50, 51, 52, 53, 54, 55, 56, 57, 58, 59, 60, 61, 62, 63, 64, 65, 66, 67, 68, 69, 70, 71, 72, 73, 74, 75, 76, 77, 78, 79, 80, 81, 82, 83, 84, 85, 86, 87, 88, 89, 90, 91, 92, 93, 94, 95, 96, 97, 98, 99, 100, 101, 102, 103] [74, 75, 76, 77, 78, 79, 80, 81, 82, 83, 84, 85, 86, 87, 88, 89, 90, 91, 92, 93, 94, 95, 96, 97, 98, 99, 100, 101, 102, 103, 0, 1, 2, 3, 4, 5, 6, 7, 8, 9, 10, 11, 12, 13, 14, 15, 16, 17, 18, 19, 20, 21, 22, 23, 24, 25, 26, 27, 28, 29, 30, 31, 32, 33, 34, 35, 36, 37, 38, 39, 40, 41, 42, 43, 44, 45, 46, 47, 48, 49, 50, 51, 52, 53, 54, 55, 56, 57, 58, 59, 60, 61, 62, 63, 64, 65, 66, 67, 68, 69, 70, 71, 72, 73] rfl (Wr := wX3 q (ad 3) (z18.2.1 3) ++ (wX3 q (ad 4) (z18.2.1 4) ++ (wX0 q (ad 5) (z18.2.1 5) (ad 6 99) ++ (wX3 q (ad 6) (z18.2.1 6) ++ (wX1 q (ad 7) (z18.2.1 7) ++ (wX4 q (ad 8) (z18.2.1 8) (ad 1 99) (ad 7 99) ++ (wX2 q (ad 9) (z18.2.1 9) ++ (wX2 q (ad 10) (z18.2.1 10) ++ (wX2 q (ad 11) (z18.2.1 11) ++ (wX2 q (ad 12) (z18.2.1 12) ++ wX6 q a z18.2.2)))))))))) rfl (by decide) (by decide) (by decide) (by decide) (fun _ => rfl) 0 rfl rfl rfl k_624 mX5_ahead ⟨rfl, rfl⟩ ⟨Nat.le_of_ble_eq_true rfl, Nat.le_of_ble_eq_true rfl⟩ rfl rfl (Nat.le_of_ble_eq_true rfl) dL_law_662 ⟨Nat.le_of_ble_eq_true rfl, Nat.le_of_ble_eq_true rfl⟩ (fun H88 locs88 hP hD hS88 => ?_)
                                          have hP88 : va_P D cls (wX5 q ad (z18.2.1 0) ++ (wX3 q (ad 1) (z18.2.1 1) ++ (wX3 q (ad 2) y662.2 ++ (wX3 q (ad 3) (z18.2.1 3) ++ (wX3 q (ad 4) (z18.2.1 4) ++ (wX0 q (ad 5) (z18.2.1 5) (ad 6 99) ++ (wX3 q (ad 6) (z18.2.1 6) ++ (wX1 q (ad 7) (z18.2.1 7) ++ (wX4 q (ad 8) (z18.2.1 8) (ad 1 99) (ad 7 99) ++ (wX2 q (ad 9) (z18.2.1 9) ++ (wX2 q (ad 10) (z18.2.1 10) ++ (wX2 q (ad 11) (z18.2.1 11) ++ (wX2 q (ad 12) (z18.2.1 12) ++ wX6 q a z18.2.2))))))))))))) H88 := hP
                                          have hD88 : va_D (fun z : Nat => s.heap.size ≤ z) (wX5 q ad (z18.2.1 0) ++ (wX3 q (ad 1) (z18.2.1 1) ++ (wX3 q (ad 2) y662.2 ++ (wX3 q (ad 3) (z18.2.1 3) ++ (wX3 q (ad 4) (z18.2.1 4) ++ (wX0 q (ad 5) (z18.2.1 5) (ad 6 99) ++ (wX3 q (ad 6) (z18.2.1 6) ++ (wX1 q (ad 7) (z18.2.1 7) ++ (wX4 q (ad 8) (z18.2.1 8) (ad 1 99) (ad 7 99) ++ (wX2 q (ad 9) (z18.2.1 9) ++ (wX2 q (ad 10) (z18.2.1 10) ++ (wX2 q (ad 11) (z18.2.1 11) ++ (wX2 q (ad 12) (z18.2.1 12) ++ wX6 q a z18.2.2))))))))))))) := hD
                                          clear hP hD hP3 hD3 hS3
                                          refine lv_aload_n hx hb dL_law_665 rfl (lv_at hl2 0 rfl) ?_
                                          refine lv_aload_n hx hb dL_law_666 rfl (lv_at hl2 2 rfl) ?_
                                          refine lv_iload_n hx hb dL_law_667 rfl (lv_at hl2 3 rfl) ?_
                                          refine lv_iconst (v := (1 : Int32)) hx hb dL_law_668 (by decide) ?_
                                          refine lv_iadd hx hb dL_law_669 ?_
                                          obtain ⟨h89, hm⟩ := ckd hm
                                          refine va_sld hx hb hX hbl hbA hS88 (inB_vp h89) dL_law_670 ?_
                                          refine lv_aload_n hx hb dL_law_671 rfl (lv_at hl2 2 rfl) ?_
                                          refine lv_iload_n hx hb dL_law_672 rfl (lv_at hl2 3 rfl) ?_
                                          refine lv_iconst (v := (2 : Int32)) hx hb dL_law_673 (by decide) ?_
                                          refine lv_iadd hx hb dL_law_674 ?_
                                          obtain ⟨h90, hm⟩ := ckd hm
                                          refine va_sld hx hb hX hbl hbA hS88 (inB_vp h90) dL_law_675 ?_
                                          refine lv_aload_n hx hb dL_law_676 rfl (lv_at hl2 2 rfl) ?_
                                          refine lv_iload_n hx hb dL_law_677 rfl (lv_at hl2 3 rfl) ?_
                                          refine lv_iconst (v := (3 : Int32)) hx hb dL_law_678 (by decide) ?_
                                          refine lv_iadd hx hb dL_law_679 ?_
                                          obtain ⟨h91, hm⟩ := ckd hm
                                          refine va_sld hx hb hX hbl hbA hS88 (inB_vp h91) dL_law_680 ?_
                                          obtain ⟨y681, hy681, hm⟩ := bn hm
                                          refine cVWi (As := [.int (xs ((z18.1 + (1 : Int32))).toNatClampNeg), .int (xs ((z18.1 + (2 : Int32))).toNatClampNeg), .int (xs ((z18.1 + (3 : Int32))).toNatClampNeg)]) (rest := [.int y662.1]) (Wn := fun (uu : SV) => wX5 q ad (z18.2.1 0) ++ (wX3 q (ad 1) (z18.2.1 1) ++ (wX3 q (ad 2) y662.2 ++ (wX3 q (ad 3) (z18.2.1 3) ++ (wX3 q (ad 4) (z18.2.1 4) ++ (wX0 q (ad 5) (z18.2.1 5) (ad 6 99) ++ (wX3 q (ad 6) (z18.2.1 6) ++ (wX1 q (ad 7) (z18.2.1 7) ++ (wX4 q (ad 8) (z18.2.1 8) (ad 1 99) (ad 7 99) ++ (wX2 q (ad 9) (z18.2.1 9) ++ (wX2 q (ad 10) (z18.2.1 10) ++ (wX2 q (ad 11) (z18.2.1 11) ++ (wX2 q (ad 12) (z18.2.1 12) ++ wX6 q a uu))))))))))))) X hP88 hD88 hS88 (fun _ h => h) hl2.1 (c_X6_ahead l D q H88.size a z18.2.2 (xs ((z18.1 + (1 : Int32))).toNatClampNeg) (xs ((z18.1 + (2 : Int32))).toNatClampNeg) (xs ((z18.1 + (3 : Int32))).toNatClampNeg) y681 hy681) [86, 87, 88, 89, 90, 91, 92, 93, 94, 95, 96, 97, 98, 99, 100, 101, 102, 103] [0, 1, 2, 3, 4, 5, 6, 7, 8, 9, 10, 11, 12, 13, 14, 15, 16, 17, 18, 19, 20, 21, 22, 23, 24, 25, 26, 27, 28, 29, 30, 31, 32, 33, 34, 35, 36, 37, 38, 39, 40, 41, 42, 43, 44, 45, 46, 47, 48, 49, 50, 51, 52, 53, 54, 55, 56, 57, 58, 59, 60, 61, 62, 63, 64, 65, 66, 67, 68, 69, 70, 71, 72, 73, 74, 75, 76, 77, 78, 79, 80, 81, 82, 83, 84, 85] [0, 1, 2, 3, 4, 5, 6, 7, 8, 9, 10, 11, 12, 13, 14, 15, 16, 17, 18, 19, 20, 21, 22, 23, 24, 25, 26, 27, 28, 29, 30, 31, 32, 33, 34, 35, 36, 37, 38, 39, 40, 41, 42, 43, 44, 45, 46, 47, 48, 49, 50, 51, 52, 53, 54, 55, 56, 57, 58, 59, 60, 61, 62, 63, 64, 65, 66, 67, 68, 69, 70, 71, 72, 73, 74, 75, 76, 77, 78, 79, 80, 81, 82, 83, 84, 85, 86, 87, 88, 89, 90, 91, 92, 93, 94, 95, 96, 97, 98, 99, 100, 101, 102, 103] rfl (Wr := wX5 q ad (z18.2.1 0) ++ (wX3 q (ad 1) (z18.2.1 1) ++ (wX3 q (ad 2) y662.2 ++ (wX3 q (ad 3) (z18.2.1 3) ++ (wX3 q (ad 4) (z18.2.1 4) ++ (wX0 q (ad 5) (z18.2.1 5) (ad 6 99) ++ (wX3 q (ad 6) (z18.2.1 6) ++ (wX1 q (ad 7) (z18.2.1 7) ++ (wX4 q (ad 8) (z18.2.1 8) (ad 1 99) (ad 7 99) ++ (wX2 q (ad 9) (z18.2.1 9) ++ (wX2 q (ad 10) (z18.2.1 10) ++ (wX2 q (ad 11) (z18.2.1 11) ++ wX2 q (ad 12) (z18.2.1 12))))))))))))) rfl (by decide) (by decide) (by decide) (by decide) (fun _ => rfl) 86 rfl rfl rfl k_1179 mX6_ahead ⟨rfl, rfl⟩ ⟨Nat.le_of_ble_eq_true rfl, Nat.le_of_ble_eq_true rfl⟩ rfl rfl (Nat.le_of_ble_eq_true rfl) dL_law_681 ⟨Nat.le_of_ble_eq_true rfl, Nat.le_of_ble_eq_true rfl⟩ (fun H92 locs92 hP hD hS92 => ?_)
                                          have hP92 : va_P D cls (wX5 q ad (z18.2.1 0) ++ (wX3 q (ad 1) (z18.2.1 1) ++ (wX3 q (ad 2) y662.2 ++ (wX3 q (ad 3) (z18.2.1 3) ++ (wX3 q (ad 4) (z18.2.1 4) ++ (wX0 q (ad 5) (z18.2.1 5) (ad 6 99) ++ (wX3 q (ad 6) (z18.2.1 6) ++ (wX1 q (ad 7) (z18.2.1 7) ++ (wX4 q (ad 8) (z18.2.1 8) (ad 1 99) (ad 7 99) ++ (wX2 q (ad 9) (z18.2.1 9) ++ (wX2 q (ad 10) (z18.2.1 10) ++ (wX2 q (ad 11) (z18.2.1 11) ++ (wX2 q (ad 12) (z18.2.1 12) ++ wX6 q a y681.2))))))))))))) H92 := hP
                                          have hD92 : va_D (fun z : Nat => s.heap.size ≤ z) (wX5 q ad (z18.2.1 0) ++ (wX3 q (ad 1) (z18.2.1 1) ++ (wX3 q (ad 2) y662.2 ++ (wX3 q (ad 3) (z18.2.1 3) ++ (wX3 q (ad 4) (z18.2.1 4) ++ (wX0 q (ad 5) (z18.2.1 5) (ad 6 99) ++ (wX3 q (ad 6) (z18.2.1 6) ++ (wX1 q (ad 7) (z18.2.1 7) ++ (wX4 q (ad 8) (z18.2.1 8) (ad 1 99) (ad 7 99) ++ (wX2 q (ad 9) (z18.2.1 9) ++ (wX2 q (ad 10) (z18.2.1 10) ++ (wX2 q (ad 11) (z18.2.1 11) ++ (wX2 q (ad 12) (z18.2.1 12) ++ wX6 q a y681.2))))))))))))) := hD
                                          clear hP hD hP88 hD88 hS88
                                          refine lv_icmp_eq (tgt := 1367) hx hb dL_law_684 (by decide) (fun c684 => ?_) (fun c684 => ?_)
                                          · replace hm := tp hm c684
                                            refine lv_iinc (v := (z18.1 + (5 : Int32))) (lv' := [(3, .int (z18.1 + (5 : Int32))), (2, .ref (a 99)), (1, .ref (ad 0 99)), (0, .ref b)]) hx hb dL_law_1367 hl2 (k := 3) rfl rfl (by decide) rfl (fun ls93 hl93 => ?_)
                                            clear hl2
                                            refine lv_goto (tgt := 18) hx hb dL_law_1370 (by decide) ?_
                                            cases hm
                                            exact ih18 ((z18.1 + (5 : Int32)), (mkG (z18.2.1 0) (z18.2.1 1) y662.2 (z18.2.1 3) (z18.2.1 4) (z18.2.1 5) (z18.2.1 6) (z18.2.1 7) (z18.2.1 8) (z18.2.1 9) (z18.2.1 10) (z18.2.1 11) (z18.2.1 12)), y681.2) ρ18 hz18 hK18 _ _ hP92 hD92 hS92 _ (lv_sub hl93 [1, 2, 3, 0] rfl)
                                          · replace hm := tn hm c684
                                            refine lv_iconst (v := (0 : Int32)) hx hb dL_law_687 (by decide) ?_
                                            cases hm
                                            cases hz18
                                            have hm : (some (0 : Int32) : Option Int32) = some (1 : Int32) := hK18
                                            exact absurd (Option.some.inj hm) (by decide)
                                        · replace hm := tn hm c32_16
                                          by_cases c32_17 : ((xs (z18.1).toNatClampNeg) &&& (63 : Int32)) = (17 : Int32)
                                          · replace hm := tp hm c32_17
                                            refine lv_tableIn (off := 657) (tgt := 689) hx hb dL_law_32 (by rw [c32_17]; decide) (by rw [c32_17]; decide) (by rw [c32_17]; rfl) (by decide) ?_
                                            refine lv_aload_n hx hb dL_law_689 rfl (lv_at hl2 1 rfl) ?_
                                            refine lv_aload_n hx hb dL_law_690 rfl (lv_at hl2 2 rfl) ?_
                                            refine lv_iload_n hx hb dL_law_691 rfl (lv_at hl2 3 rfl) ?_
                                            refine lv_iconst (v := (1 : Int32)) hx hb dL_law_692 (by decide) ?_
                                            refine lv_iadd hx hb dL_law_693 ?_
                                            obtain ⟨h94, hm⟩ := ckd hm
                                            refine va_sld hx hb hX hbl hbA hS3 (inB_vp h94) dL_law_694 ?_
                                            refine lv_aload_n hx hb dL_law_695 rfl (lv_at hl2 2 rfl) ?_
                                            refine lv_iload_n hx hb dL_law_696 rfl (lv_at hl2 3 rfl) ?_
                                            refine lv_iconst (v := (2 : Int32)) hx hb dL_law_697 (by decide) ?_
                                            refine lv_iadd hx hb dL_law_698 ?_
                                            obtain ⟨h95, hm⟩ := ckd hm
                                            refine va_sld hx hb hX hbl hbA hS3 (inB_vp h95) dL_law_699 ?_
                                            obtain ⟨y700, hy700, hm⟩ := bn hm
                                            refine cVWi (As := [.int (xs ((z18.1 + (1 : Int32))).toNatClampNeg), .int (xs ((z18.1 + (2 : Int32))).toNatClampNeg)]) (rest := []) (Wn := fun (uu : SV) => wX5 q ad (z18.2.1 0) ++ (wX3 q (ad 1) (z18.2.1 1) ++ (wX3 q (ad 2) uu ++ (wX3 q (ad 3) (z18.2.1 3) ++ (wX3 q (ad 4) (z18.2.1 4) ++ (wX0 q (ad 5) (z18.2.1 5) (ad 6 99) ++ (wX3 q (ad 6) (z18.2.1 6) ++ (wX1 q (ad 7) (z18.2.1 7) ++ (wX4 q (ad 8) (z18.2.1 8) (ad 1 99) (ad 7 99) ++ (wX2 q (ad 9) (z18.2.1 9) ++ (wX2 q (ad 10) (z18.2.1 10) ++ (wX2 q (ad 11) (z18.2.1 11) ++ (wX2 q (ad 12) (z18.2.1 12) ++ wX6 q a z18.2.2))))))))))))) X hP3 hD3 hS3 (fun _ h => h) hl2.1 (c_X5_when l D q H3.size ad (z18.2.1 0) (z18.2.1 1) (z18.2.1 2) (xs ((z18.1 + (1 : Int32))).toNatClampNeg) (xs ((z18.1 + (2 : Int32))).toNatClampNeg) y700 hy700) [0, 1, 2, 3, 4, 5, 6, 7, 8, 9, 10, 11, 12, 13, 14, 15, 16, 17, 18, 19, 20, 21, 22, 23, 24, 25, 26, 27, 28, 29] [30, 31, 32, 33, 34, 35, 36, 37, 38, 39, 40, 41, 42, 43, 44, 45, 46, 47, 48, 49, 50, 51, 52, 53, 54, 55, 56, 57, 58, 59, 60, 61, 62, 63, 64, 65, 66, 67, 68, 69, 70, 71, 72, 73, 74, 75, 76, 77, 78, 79, 80, 81, 82, 83, 84, 85, 86, 87, 88, 89, 90, 91, 92, 93, 94, 95, 96, 97, 98, 99, 100, 101, 102, 103] [74, 75, 76, 77, 78, 79, 80, 81, 82, 83, 84, 85, 86, 87, 88, 89, 90, 91, 92, 93, 94, 95, 96, 97, 98, 99, 100, 101, 102, 103, 0, 1, 2, 3, 4, 5, 6, 7, 8, 9, 10, 11, 12, 13, 14, 15, 16, 17, 18, 19, 20, 21, 22, 23, 24, 25, 26, 27, 28, 29, 30, 31, 32, 33, 34, 35, 36, 37, 38, 39, 40, 41, 42, 43, 44, 45, 46, 47, 48, 49, 50, 51, 52, 53, 54, 55, 56, 57, 58, 59, 60, 61, 62, 63, 64, 65, 66, 67, 68, 69, 70, 71, 72, 73] rfl (Wr := wX3 q (ad 3) (z18.2.1 3) ++ (wX3 q (ad 4) (z18.2.1 4) ++ (wX0 q (ad 5) (z18.2.1 5) (ad 6 99) ++ (wX3 q (ad 6) (z18.2.1 6) ++ (wX1 q (ad 7) (z18.2.1 7) ++ (wX4 q (ad 8) (z18.2.1 8) (ad 1 99) (ad 7 99) ++ (wX2 q (ad 9) (z18.2.1 9) ++ (wX2 q (ad 10) (z18.2.1 10) ++ (wX2 q (ad 11) (z18.2.1 11) ++ (wX2 q (ad 12) (z18.2.1 12) ++ wX6 q a z18.2.2)))))))))) rfl (by decide) (by decide) (by decide) (by decide) (fun _ => rfl) 0 rfl rfl rfl k_628 mX5_when ⟨rfl, rfl⟩ ⟨Nat.le_of_ble_eq_true rfl, Nat.le_of_ble_eq_true rfl⟩ rfl rfl (Nat.le_of_ble_eq_true rfl) dL_law_700 ⟨Nat.le_of_ble_eq_true rfl, Nat.le_of_ble_eq_true rfl⟩ (fun H96 locs96 hP hD hS96 => ?_)
                                            have hP96 : va_P D cls (wX5 q ad (z18.2.1 0) ++ (wX3 q (ad 1) (z18.2.1 1) ++ (wX3 q (ad 2) y700.2 ++ (wX3 q (ad 3) (z18.2.1 3) ++ (wX3 q (ad 4) (z18.2.1 4) ++ (wX0 q (ad 5) (z18.2.1 5) (ad 6 99) ++ (wX3 q (ad 6) (z18.2.1 6) ++ (wX1 q (ad 7) (z18.2.1 7) ++ (wX4 q (ad 8) (z18.2.1 8) (ad 1 99) (ad 7 99) ++ (wX2 q (ad 9) (z18.2.1 9) ++ (wX2 q (ad 10) (z18.2.1 10) ++ (wX2 q (ad 11) (z18.2.1 11) ++ (wX2 q (ad 12) (z18.2.1 12) ++ wX6 q a z18.2.2))))))))))))) H96 := hP
                                            have hD96 : va_D (fun z : Nat => s.heap.size ≤ z) (wX5 q ad (z18.2.1 0) ++ (wX3 q (ad 1) (z18.2.1 1) ++ (wX3 q (ad 2) y700.2 ++ (wX3 q (ad 3) (z18.2.1 3) ++ (wX3 q (ad 4) (z18.2.1 4) ++ (wX0 q (ad 5) (z18.2.1 5) (ad 6 99) ++ (wX3 q (ad 6) (z18.2.1 6) ++ (wX1 q (ad 7) (z18.2.1 7) ++ (wX4 q (ad 8) (z18.2.1 8) (ad 1 99) (ad 7 99) ++ (wX2 q (ad 9) (z18.2.1 9) ++ (wX2 q (ad 10) (z18.2.1 10) ++ (wX2 q (ad 11) (z18.2.1 11) ++ (wX2 q (ad 12) (z18.2.1 12) ++ wX6 q a z18.2.2))))))))))))) := hD
                                            clear hP hD hP3 hD3 hS3
                                            refine lv_aload_n hx hb dL_law_703 rfl (lv_at hl2 0 rfl) ?_
                                            refine lv_aload_n hx hb dL_law_704 rfl (lv_at hl2 2 rfl) ?_
                                            refine lv_iload_n hx hb dL_law_705 rfl (lv_at hl2 3 rfl) ?_
                                            refine lv_iconst (v := (1 : Int32)) hx hb dL_law_706 (by decide) ?_
                                            refine lv_iadd hx hb dL_law_707 ?_
                                            obtain ⟨h97, hm⟩ := ckd hm
                                            refine va_sld hx hb hX hbl hbA hS96 (inB_vp h97) dL_law_708 ?_
                                            refine lv_aload_n hx hb dL_law_709 rfl (lv_at hl2 2 rfl) ?_
                                            refine lv_iload_n hx hb dL_law_710 rfl (lv_at hl2 3 rfl) ?_
                                            refine lv_iconst (v := (2 : Int32)) hx hb dL_law_711 (by decide) ?_
                                            refine lv_iadd hx hb dL_law_712 ?_
                                            obtain ⟨h98, hm⟩ := ckd hm
                                            refine va_sld hx hb hX hbl hbA hS96 (inB_vp h98) dL_law_713 ?_
                                            obtain ⟨y714, hy714, hm⟩ := bn hm
                                            refine cVWi (As := [.int (xs ((z18.1 + (1 : Int32))).toNatClampNeg), .int (xs ((z18.1 + (2 : Int32))).toNatClampNeg)]) (rest := [.int y700.1]) (Wn := fun (uu : SV) => wX5 q ad (z18.2.1 0) ++ (wX3 q (ad 1) (z18.2.1 1) ++ (wX3 q (ad 2) y700.2 ++ (wX3 q (ad 3) (z18.2.1 3) ++ (wX3 q (ad 4) (z18.2.1 4) ++ (wX0 q (ad 5) (z18.2.1 5) (ad 6 99) ++ (wX3 q (ad 6) (z18.2.1 6) ++ (wX1 q (ad 7) (z18.2.1 7) ++ (wX4 q (ad 8) (z18.2.1 8) (ad 1 99) (ad 7 99) ++ (wX2 q (ad 9) (z18.2.1 9) ++ (wX2 q (ad 10) (z18.2.1 10) ++ (wX2 q (ad 11) (z18.2.1 11) ++ (wX2 q (ad 12) (z18.2.1 12) ++ wX6 q a uu))))))))))))) X hP96 hD96 hS96 (fun _ h => h) hl2.1 (c_X6_when l D q H96.size a z18.2.2 (xs ((z18.1 + (1 : Int32))).toNatClampNeg) (xs ((z18.1 + (2 : Int32))).toNatClampNeg) y714 hy714) [86, 87, 88, 89, 90, 91, 92, 93, 94, 95, 96, 97, 98, 99, 100, 101, 102, 103] [0, 1, 2, 3, 4, 5, 6, 7, 8, 9, 10, 11, 12, 13, 14, 15, 16, 17, 18, 19, 20, 21, 22, 23, 24, 25, 26, 27, 28, 29, 30, 31, 32, 33, 34, 35, 36, 37, 38, 39, 40, 41, 42, 43, 44, 45, 46, 47, 48, 49, 50, 51, 52, 53, 54, 55, 56, 57, 58, 59, 60, 61, 62, 63, 64, 65, 66, 67, 68, 69, 70, 71, 72, 73, 74, 75, 76, 77, 78, 79, 80, 81, 82, 83, 84, 85] [0, 1, 2, 3, 4, 5, 6, 7, 8, 9, 10, 11, 12, 13, 14, 15, 16, 17, 18, 19, 20, 21, 22, 23, 24, 25, 26, 27, 28, 29, 30, 31, 32, 33, 34, 35, 36, 37, 38, 39, 40, 41, 42, 43, 44, 45, 46, 47, 48, 49, 50, 51, 52, 53, 54, 55, 56, 57, 58, 59, 60, 61, 62, 63, 64, 65, 66, 67, 68, 69, 70, 71, 72, 73, 74, 75, 76, 77, 78, 79, 80, 81, 82, 83, 84, 85, 86, 87, 88, 89, 90, 91, 92, 93, 94, 95, 96, 97, 98, 99, 100, 101, 102, 103] rfl (Wr := wX5 q ad (z18.2.1 0) ++ (wX3 q (ad 1) (z18.2.1 1) ++ (wX3 q (ad 2) y700.2 ++ (wX3 q (ad 3) (z18.2.1 3) ++ (wX3 q (ad 4) (z18.2.1 4) ++ (wX0 q (ad 5) (z18.2.1 5) (ad 6 99) ++ (wX3 q (ad 6) (z18.2.1 6) ++ (wX1 q (ad 7) (z18.2.1 7) ++ (wX4 q (ad 8) (z18.2.1 8) (ad 1 99) (ad 7 99) ++ (wX2 q (ad 9) (z18.2.1 9) ++ (wX2 q (ad 10) (z18.2.1 10) ++ (wX2 q (ad 11) (z18.2.1 11) ++ wX2 q (ad 12) (z18.2.1 12))))))))))))) rfl (by decide) (by decide) (by decide) (by decide) (fun _ => rfl) 86 rfl rfl rfl k_1187 mX6_when ⟨rfl, rfl⟩ ⟨Nat.le_of_ble_eq_true rfl, Nat.le_of_ble_eq_true rfl⟩ rfl rfl (Nat.le_of_ble_eq_true rfl) dL_law_714 ⟨Nat.le_of_ble_eq_true rfl, Nat.le_of_ble_eq_true rfl⟩ (fun H99 locs99 hP hD hS99 => ?_)
                                            have hP99 : va_P D cls (wX5 q ad (z18.2.1 0) ++ (wX3 q (ad 1) (z18.2.1 1) ++ (wX3 q (ad 2) y700.2 ++ (wX3 q (ad 3) (z18.2.1 3) ++ (wX3 q (ad 4) (z18.2.1 4) ++ (wX0 q (ad 5) (z18.2.1 5) (ad 6 99) ++ (wX3 q (ad 6) (z18.2.1 6) ++ (wX1 q (ad 7) (z18.2.1 7) ++ (wX4 q (ad 8) (z18.2.1 8) (ad 1 99) (ad 7 99) ++ (wX2 q (ad 9) (z18.2.1 9) ++ (wX2 q (ad 10) (z18.2.1 10) ++ (wX2 q (ad 11) (z18.2.1 11) ++ (wX2 q (ad 12) (z18.2.1 12) ++ wX6 q a y714.2))))))))))))) H99 := hP
                                            have hD99 : va_D (fun z : Nat => s.heap.size ≤ z) (wX5 q ad (z18.2.1 0) ++ (wX3 q (ad 1) (z18.2.1 1) ++ (wX3 q (ad 2) y700.2 ++ (wX3 q (ad 3) (z18.2.1 3) ++ (wX3 q (ad 4) (z18.2.1 4) ++ (wX0 q (ad 5) (z18.2.1 5) (ad 6 99) ++ (wX3 q (ad 6) (z18.2.1 6) ++ (wX1 q (ad 7) (z18.2.1 7) ++ (wX4 q (ad 8) (z18.2.1 8) (ad 1 99) (ad 7 99) ++ (wX2 q (ad 9) (z18.2.1 9) ++ (wX2 q (ad 10) (z18.2.1 10) ++ (wX2 q (ad 11) (z18.2.1 11) ++ (wX2 q (ad 12) (z18.2.1 12) ++ wX6 q a y714.2))))))))))))) := hD
                                            clear hP hD hP96 hD96 hS96
                                            refine lv_icmp_eq (tgt := 1367) hx hb dL_law_717 (by decide) (fun c717 => ?_) (fun c717 => ?_)
                                            · replace hm := tp hm c717
                                              refine lv_iinc (v := (z18.1 + (5 : Int32))) (lv' := [(3, .int (z18.1 + (5 : Int32))), (2, .ref (a 99)), (1, .ref (ad 0 99)), (0, .ref b)]) hx hb dL_law_1367 hl2 (k := 3) rfl rfl (by decide) rfl (fun ls100 hl100 => ?_)
                                              clear hl2
                                              refine lv_goto (tgt := 18) hx hb dL_law_1370 (by decide) ?_
                                              cases hm
                                              exact ih18 ((z18.1 + (5 : Int32)), (mkG (z18.2.1 0) (z18.2.1 1) y700.2 (z18.2.1 3) (z18.2.1 4) (z18.2.1 5) (z18.2.1 6) (z18.2.1 7) (z18.2.1 8) (z18.2.1 9) (z18.2.1 10) (z18.2.1 11) (z18.2.1 12)), y714.2) ρ18 hz18 hK18 _ _ hP99 hD99 hS99 _ (lv_sub hl100 [1, 2, 3, 0] rfl)
                                            · replace hm := tn hm c717
                                              refine lv_iconst (v := (0 : Int32)) hx hb dL_law_720 (by decide) ?_
                                              cases hm
                                              cases hz18
                                              have hm : (some (0 : Int32) : Option Int32) = some (1 : Int32) := hK18
                                              exact absurd (Option.some.inj hm) (by decide)
                                          · replace hm := tn hm c32_17
                                            by_cases c32_18 : ((xs (z18.1).toNatClampNeg) &&& (63 : Int32)) = (18 : Int32)
                                            · replace hm := tp hm c32_18
                                              refine lv_tableIn (off := 690) (tgt := 722) hx hb dL_law_32 (by rw [c32_18]; decide) (by rw [c32_18]; decide) (by rw [c32_18]; rfl) (by decide) ?_
                                              refine lv_aload_n hx hb dL_law_722 rfl (lv_at hl2 1 rfl) ?_
                                              obtain ⟨y723, hy723, hm⟩ := bn hm
                                              refine cVWi (As := []) (rest := []) (Wn := fun (uu : SV × SV) => wX5 q ad uu.1 ++ (wX3 q (ad 1) (z18.2.1 1) ++ (wX3 q (ad 2) uu.2 ++ (wX3 q (ad 3) (z18.2.1 3) ++ (wX3 q (ad 4) (z18.2.1 4) ++ (wX0 q (ad 5) (z18.2.1 5) (ad 6 99) ++ (wX3 q (ad 6) (z18.2.1 6) ++ (wX1 q (ad 7) (z18.2.1 7) ++ (wX4 q (ad 8) (z18.2.1 8) (ad 1 99) (ad 7 99) ++ (wX2 q (ad 9) (z18.2.1 9) ++ (wX2 q (ad 10) (z18.2.1 10) ++ (wX2 q (ad 11) (z18.2.1 11) ++ (wX2 q (ad 12) (z18.2.1 12) ++ wX6 q a z18.2.2))))))))))))) X hP3 hD3 hS3 (fun _ h => h) hl2.1 (c_X5_even l D q H3.size ad (z18.2.1 0) (z18.2.1 1) (z18.2.1 2) y723 hy723) [0, 1, 2, 3, 4, 5, 6, 7, 8, 9, 10, 11, 12, 13, 14, 15, 16, 17, 18, 19, 20, 21, 22, 23, 24, 25, 26, 27, 28, 29] [30, 31, 32, 33, 34, 35, 36, 37, 38, 39, 40, 41, 42, 43, 44, 45, 46, 47, 48, 49, 50, 51, 52, 53, 54, 55, 56, 57, 58, 59, 60, 61, 62, 63, 64, 65, 66, 67, 68, 69, 70, 71, 72, 73, 74, 75, 76, 77, 78, 79, 80, 81, 82, 83, 84, 85, 86, 87, 88, 89, 90, 91, 92, 93, 94, 95, 96, 97, 98, 99, 100, 101, 102, 103] [74, 75, 76, 77, 78, 79, 80, 81, 82, 83, 84, 85, 86, 87, 88, 89, 90, 91, 92, 93, 94, 95, 96, 97, 98, 99, 100, 101, 102, 103, 0, 1, 2, 3, 4, 5, 6, 7, 8, 9, 10, 11, 12, 13, 14, 15, 16, 17, 18, 19, 20, 21, 22, 23, 24, 25, 26, 27, 28, 29, 30, 31, 32, 33, 34, 35, 36, 37, 38, 39, 40, 41, 42, 43, 44, 45, 46, 47, 48, 49, 50, 51, 52, 53, 54, 55, 56, 57, 58, 59, 60, 61, 62, 63, 64, 65, 66, 67, 68, 69, 70, 71, 72, 73] rfl (Wr := wX3 q (ad 3) (z18.2.1 3) ++ (wX3 q (ad 4) (z18.2.1 4) ++ (wX0 q (ad 5) (z18.2.1 5) (ad 6 99) ++ (wX3 q (ad 6) (z18.2.1 6) ++ (wX1 q (ad 7) (z18.2.1 7) ++ (wX4 q (ad 8) (z18.2.1 8) (ad 1 99) (ad 7 99) ++ (wX2 q (ad 9) (z18.2.1 9) ++ (wX2 q (ad 10) (z18.2.1 10) ++ (wX2 q (ad 11) (z18.2.1 11) ++ (wX2 q (ad 12) (z18.2.1 12) ++ wX6 q a z18.2.2)))))))))) rfl (by decide) (by decide) (by decide) (by decide) (fun _ => rfl) 0 rfl rfl rfl k_632 mX5_even ⟨rfl, rfl⟩ ⟨Nat.le_of_ble_eq_true rfl, Nat.le_of_ble_eq_true rfl⟩ rfl rfl (Nat.le_of_ble_eq_true rfl) dL_law_723 ⟨Nat.le_of_ble_eq_true rfl, Nat.le_of_ble_eq_true rfl⟩ (fun H101 locs101 hP hD hS101 => ?_)
                                              have hP101 : va_P D cls (wX5 q ad y723.2.1 ++ (wX3 q (ad 1) (z18.2.1 1) ++ (wX3 q (ad 2) y723.2.2 ++ (wX3 q (ad 3) (z18.2.1 3) ++ (wX3 q (ad 4) (z18.2.1 4) ++ (wX0 q (ad 5) (z18.2.1 5) (ad 6 99) ++ (wX3 q (ad 6) (z18.2.1 6) ++ (wX1 q (ad 7) (z18.2.1 7) ++ (wX4 q (ad 8) (z18.2.1 8) (ad 1 99) (ad 7 99) ++ (wX2 q (ad 9) (z18.2.1 9) ++ (wX2 q (ad 10) (z18.2.1 10) ++ (wX2 q (ad 11) (z18.2.1 11) ++ (wX2 q (ad 12) (z18.2.1 12) ++ wX6 q a z18.2.2))))))))))))) H101 := hP
                                              have hD101 : va_D (fun z : Nat => s.heap.size ≤ z) (wX5 q ad y723.2.1 ++ (wX3 q (ad 1) (z18.2.1 1) ++ (wX3 q (ad 2) y723.2.2 ++ (wX3 q (ad 3) (z18.2.1 3) ++ (wX3 q (ad 4) (z18.2.1 4) ++ (wX0 q (ad 5) (z18.2.1 5) (ad 6 99) ++ (wX3 q (ad 6) (z18.2.1 6) ++ (wX1 q (ad 7) (z18.2.1 7) ++ (wX4 q (ad 8) (z18.2.1 8) (ad 1 99) (ad 7 99) ++ (wX2 q (ad 9) (z18.2.1 9) ++ (wX2 q (ad 10) (z18.2.1 10) ++ (wX2 q (ad 11) (z18.2.1 11) ++ (wX2 q (ad 12) (z18.2.1 12) ++ wX6 q a z18.2.2))))))))))))) := hD
                                              clear hP hD hP3 hD3 hS3
                                              refine lv_aload_n hx hb dL_law_726 rfl (lv_at hl2 0 rfl) ?_
                                              obtain ⟨y727, hy727, hm⟩ := bn hm
                                              refine cVWi (As := []) (rest := [.int y723.1]) (Wn := fun (uu : SV) => wX5 q ad y723.2.1 ++ (wX3 q (ad 1) (z18.2.1 1) ++ (wX3 q (ad 2) y723.2.2 ++ (wX3 q (ad 3) (z18.2.1 3) ++ (wX3 q (ad 4) (z18.2.1 4) ++ (wX0 q (ad 5) (z18.2.1 5) (ad 6 99) ++ (wX3 q (ad 6) (z18.2.1 6) ++ (wX1 q (ad 7) (z18.2.1 7) ++ (wX4 q (ad 8) (z18.2.1 8) (ad 1 99) (ad 7 99) ++ (wX2 q (ad 9) (z18.2.1 9) ++ (wX2 q (ad 10) (z18.2.1 10) ++ (wX2 q (ad 11) (z18.2.1 11) ++ (wX2 q (ad 12) (z18.2.1 12) ++ wX6 q a uu))))))))))))) X hP101 hD101 hS101 (fun _ h => h) hl2.1 (c_X6_even l D q H101.size a z18.2.2 y727 hy727) [86, 87, 88, 89, 90, 91, 92, 93, 94, 95, 96, 97, 98, 99, 100, 101, 102, 103] [0, 1, 2, 3, 4, 5, 6, 7, 8, 9, 10, 11, 12, 13, 14, 15, 16, 17, 18, 19, 20, 21, 22, 23, 24, 25, 26, 27, 28, 29, 30, 31, 32, 33, 34, 35, 36, 37, 38, 39, 40, 41, 42, 43, 44, 45, 46, 47, 48, 49, 50, 51, 52, 53, 54, 55, 56, 57, 58, 59, 60, 61, 62, 63, 64, 65, 66, 67, 68, 69, 70, 71, 72, 73, 74, 75, 76, 77, 78, 79, 80, 81, 82, 83, 84, 85] [0, 1, 2, 3, 4, 5, 6, 7, 8, 9, 10, 11, 12, 13, 14, 15, 16, 17, 18, 19, 20, 21, 22, 23, 24, 25, 26, 27, 28, 29, 30, 31, 32, 33, 34, 35, 36, 37, 38, 39, 40, 41, 42, 43, 44, 45, 46, 47, 48, 49, 50, 51, 52, 53, 54, 55, 56, 57, 58, 59, 60, 61, 62, 63, 64, 65, 66, 67, 68, 69, 70, 71, 72, 73, 74, 75, 76, 77, 78, 79, 80, 81, 82, 83, 84, 85, 86, 87, 88, 89, 90, 91, 92, 93, 94, 95, 96, 97, 98, 99, 100, 101, 102, 103] rfl (Wr := wX5 q ad y723.2.1 ++ (wX3 q (ad 1) (z18.2.1 1) ++ (wX3 q (ad 2) y723.2.2 ++ (wX3 q (ad 3) (z18.2.1 3) ++ (wX3 q (ad 4) (z18.2.1 4) ++ (wX0 q (ad 5) (z18.2.1 5) (ad 6 99) ++ (wX3 q (ad 6) (z18.2.1 6) ++ (wX1 q (ad 7) (z18.2.1 7) ++ (wX4 q (ad 8) (z18.2.1 8) (ad 1 99) (ad 7 99) ++ (wX2 q (ad 9) (z18.2.1 9) ++ (wX2 q (ad 10) (z18.2.1 10) ++ (wX2 q (ad 11) (z18.2.1 11) ++ wX2 q (ad 12) (z18.2.1 12))))))))))))) rfl (by decide) (by decide) (by decide) (by decide) (fun _ => rfl) 86 rfl rfl rfl k_1191 mX6_even ⟨rfl, rfl⟩ ⟨Nat.le_of_ble_eq_true rfl, Nat.le_of_ble_eq_true rfl⟩ rfl rfl (Nat.le_of_ble_eq_true rfl) dL_law_727 ⟨Nat.le_of_ble_eq_true rfl, Nat.le_of_ble_eq_true rfl⟩ (fun H102 locs102 hP hD hS102 => ?_)
                                              have hP102 : va_P D cls (wX5 q ad y723.2.1 ++ (wX3 q (ad 1) (z18.2.1 1) ++ (wX3 q (ad 2) y723.2.2 ++ (wX3 q (ad 3) (z18.2.1 3) ++ (wX3 q (ad 4) (z18.2.1 4) ++ (wX0 q (ad 5) (z18.2.1 5) (ad 6 99) ++ (wX3 q (ad 6) (z18.2.1 6) ++ (wX1 q (ad 7) (z18.2.1 7) ++ (wX4 q (ad 8) (z18.2.1 8) (ad 1 99) (ad 7 99) ++ (wX2 q (ad 9) (z18.2.1 9) ++ (wX2 q (ad 10) (z18.2.1 10) ++ (wX2 q (ad 11) (z18.2.1 11) ++ (wX2 q (ad 12) (z18.2.1 12) ++ wX6 q a y727.2))))))))))))) H102 := hP
                                              have hD102 : va_D (fun z : Nat => s.heap.size ≤ z) (wX5 q ad y723.2.1 ++ (wX3 q (ad 1) (z18.2.1 1) ++ (wX3 q (ad 2) y723.2.2 ++ (wX3 q (ad 3) (z18.2.1 3) ++ (wX3 q (ad 4) (z18.2.1 4) ++ (wX0 q (ad 5) (z18.2.1 5) (ad 6 99) ++ (wX3 q (ad 6) (z18.2.1 6) ++ (wX1 q (ad 7) (z18.2.1 7) ++ (wX4 q (ad 8) (z18.2.1 8) (ad 1 99) (ad 7 99) ++ (wX2 q (ad 9) (z18.2.1 9) ++ (wX2 q (ad 10) (z18.2.1 10) ++ (wX2 q (ad 11) (z18.2.1 11) ++ (wX2 q (ad 12) (z18.2.1 12) ++ wX6 q a y727.2))))))))))))) := hD
                                              clear hP hD hP101 hD101 hS101
                                              refine lv_icmp_eq (tgt := 1367) hx hb dL_law_730 (by decide) (fun c730 => ?_) (fun c730 => ?_)
                                              · replace hm := tp hm c730
                                                refine lv_iinc (v := (z18.1 + (5 : Int32))) (lv' := [(3, .int (z18.1 + (5 : Int32))), (2, .ref (a 99)), (1, .ref (ad 0 99)), (0, .ref b)]) hx hb dL_law_1367 hl2 (k := 3) rfl rfl (by decide) rfl (fun ls103 hl103 => ?_)
                                                clear hl2
                                                refine lv_goto (tgt := 18) hx hb dL_law_1370 (by decide) ?_
                                                cases hm
                                                exact ih18 ((z18.1 + (5 : Int32)), (mkG y723.2.1 (z18.2.1 1) y723.2.2 (z18.2.1 3) (z18.2.1 4) (z18.2.1 5) (z18.2.1 6) (z18.2.1 7) (z18.2.1 8) (z18.2.1 9) (z18.2.1 10) (z18.2.1 11) (z18.2.1 12)), y727.2) ρ18 hz18 hK18 _ _ hP102 hD102 hS102 _ (lv_sub hl103 [1, 2, 3, 0] rfl)
                                              · replace hm := tn hm c730
                                                refine lv_iconst (v := (0 : Int32)) hx hb dL_law_733 (by decide) ?_
                                                cases hm
                                                cases hz18
                                                have hm : (some (0 : Int32) : Option Int32) = some (1 : Int32) := hK18
                                                exact absurd (Option.some.inj hm) (by decide)
                                            · replace hm := tn hm c32_18
                                              by_cases c32_19 : ((xs (z18.1).toNatClampNeg) &&& (63 : Int32)) = (19 : Int32)
                                              · replace hm := tp hm c32_19
                                                refine lv_tableIn (off := 703) (tgt := 735) hx hb dL_law_32 (by rw [c32_19]; decide) (by rw [c32_19]; decide) (by rw [c32_19]; rfl) (by decide) ?_
                                                refine lv_aload_n hx hb dL_law_735 rfl (lv_at hl2 1 rfl) ?_
                                                obtain ⟨y736, hy736, hm⟩ := bn hm
                                                refine cVWi (As := []) (rest := []) (Wn := fun (uu : SV) => wX5 q ad (z18.2.1 0) ++ (wX3 q (ad 1) (z18.2.1 1) ++ (wX3 q (ad 2) (z18.2.1 2) ++ (wX3 q (ad 3) (z18.2.1 3) ++ (wX3 q (ad 4) (z18.2.1 4) ++ (wX0 q (ad 5) (z18.2.1 5) (ad 6 99) ++ (wX3 q (ad 6) (z18.2.1 6) ++ (wX1 q (ad 7) (z18.2.1 7) ++ (wX4 q (ad 8) uu (ad 1 99) (ad 7 99) ++ (wX2 q (ad 9) (z18.2.1 9) ++ (wX2 q (ad 10) (z18.2.1 10) ++ (wX2 q (ad 11) (z18.2.1 11) ++ (wX2 q (ad 12) (z18.2.1 12) ++ wX6 q a z18.2.2))))))))))))) X hP3 hD3 hS3 (fun _ h => h) hl2.1 (c_X5_many l D q H3.size ad (z18.2.1 0) (z18.2.1 1) (z18.2.1 7) (z18.2.1 8) y736 hy736) [0, 1, 2, 3, 4, 5, 6, 7, 8, 9, 10, 11, 12, 13, 14, 15, 16, 17, 68, 69, 70, 71, 72, 73, 74, 75, 76, 77] [18, 19, 20, 21, 22, 23, 24, 25, 26, 27, 28, 29, 30, 31, 32, 33, 34, 35, 36, 37, 38, 39, 40, 41, 42, 43, 44, 45, 46, 47, 48, 49, 50, 51, 52, 53, 54, 55, 56, 57, 58, 59, 60, 61, 62, 63, 64, 65, 66, 67, 78, 79, 80, 81, 82, 83, 84, 85, 86, 87, 88, 89, 90, 91, 92, 93, 94, 95, 96, 97, 98, 99, 100, 101, 102, 103] [76, 77, 78, 79, 80, 81, 82, 83, 84, 85, 86, 87, 88, 89, 90, 91, 92, 93, 0, 1, 2, 3, 4, 5, 6, 7, 8, 9, 10, 11, 12, 13, 14, 15, 16, 17, 18, 19, 20, 21, 22, 23, 24, 25, 26, 27, 28, 29, 30, 31, 32, 33, 34, 35, 36, 37, 38, 39, 40, 41, 42, 43, 44, 45, 46, 47, 48, 49, 94, 95, 96, 97, 98, 99, 100, 101, 102, 103, 50, 51, 52, 53, 54, 55, 56, 57, 58, 59, 60, 61, 62, 63, 64, 65, 66, 67, 68, 69, 70, 71, 72, 73, 74, 75] rfl (Wr := wX3 q (ad 2) (z18.2.1 2) ++ (wX3 q (ad 3) (z18.2.1 3) ++ (wX3 q (ad 4) (z18.2.1 4) ++ (wX0 q (ad 5) (z18.2.1 5) (ad 6 99) ++ (wX3 q (ad 6) (z18.2.1 6) ++ (wX2 q (ad 9) (z18.2.1 9) ++ (wX2 q (ad 10) (z18.2.1 10) ++ (wX2 q (ad 11) (z18.2.1 11) ++ (wX2 q (ad 12) (z18.2.1 12) ++ wX6 q a z18.2.2))))))))) rfl (by decide) (by decide) (by decide) (by decide) (fun _ => rfl) 0 rfl rfl rfl k_642 mX5_many ⟨rfl, rfl⟩ ⟨Nat.le_of_ble_eq_true rfl, Nat.le_of_ble_eq_true rfl⟩ rfl rfl (Nat.le_of_ble_eq_true rfl) dL_law_736 ⟨Nat.le_of_ble_eq_true rfl, Nat.le_of_ble_eq_true rfl⟩ (fun H104 locs104 hP hD hS104 => ?_)
                                                have hP104 : va_P D cls (wX5 q ad (z18.2.1 0) ++ (wX3 q (ad 1) (z18.2.1 1) ++ (wX3 q (ad 2) (z18.2.1 2) ++ (wX3 q (ad 3) (z18.2.1 3) ++ (wX3 q (ad 4) (z18.2.1 4) ++ (wX0 q (ad 5) (z18.2.1 5) (ad 6 99) ++ (wX3 q (ad 6) (z18.2.1 6) ++ (wX1 q (ad 7) (z18.2.1 7) ++ (wX4 q (ad 8) y736.2 (ad 1 99) (ad 7 99) ++ (wX2 q (ad 9) (z18.2.1 9) ++ (wX2 q (ad 10) (z18.2.1 10) ++ (wX2 q (ad 11) (z18.2.1 11) ++ (wX2 q (ad 12) (z18.2.1 12) ++ wX6 q a z18.2.2))))))))))))) H104 := hP
                                                have hD104 : va_D (fun z : Nat => s.heap.size ≤ z) (wX5 q ad (z18.2.1 0) ++ (wX3 q (ad 1) (z18.2.1 1) ++ (wX3 q (ad 2) (z18.2.1 2) ++ (wX3 q (ad 3) (z18.2.1 3) ++ (wX3 q (ad 4) (z18.2.1 4) ++ (wX0 q (ad 5) (z18.2.1 5) (ad 6 99) ++ (wX3 q (ad 6) (z18.2.1 6) ++ (wX1 q (ad 7) (z18.2.1 7) ++ (wX4 q (ad 8) y736.2 (ad 1 99) (ad 7 99) ++ (wX2 q (ad 9) (z18.2.1 9) ++ (wX2 q (ad 10) (z18.2.1 10) ++ (wX2 q (ad 11) (z18.2.1 11) ++ (wX2 q (ad 12) (z18.2.1 12) ++ wX6 q a z18.2.2))))))))))))) := hD
                                                clear hP hD hP3 hD3 hS3
                                                refine lv_aload_n hx hb dL_law_739 rfl (lv_at hl2 0 rfl) ?_
                                                obtain ⟨y740, hy740, hm⟩ := bn hm
                                                refine cVWi (As := []) (rest := [.int y736.1]) (Wn := fun (uu : SV) => wX5 q ad (z18.2.1 0) ++ (wX3 q (ad 1) (z18.2.1 1) ++ (wX3 q (ad 2) (z18.2.1 2) ++ (wX3 q (ad 3) (z18.2.1 3) ++ (wX3 q (ad 4) (z18.2.1 4) ++ (wX0 q (ad 5) (z18.2.1 5) (ad 6 99) ++ (wX3 q (ad 6) (z18.2.1 6) ++ (wX1 q (ad 7) (z18.2.1 7) ++ (wX4 q (ad 8) y736.2 (ad 1 99) (ad 7 99) ++ (wX2 q (ad 9) (z18.2.1 9) ++ (wX2 q (ad 10) (z18.2.1 10) ++ (wX2 q (ad 11) (z18.2.1 11) ++ (wX2 q (ad 12) (z18.2.1 12) ++ wX6 q a uu))))))))))))) X hP104 hD104 hS104 (fun _ h => h) hl2.1 (c_X6_many l D q H104.size a z18.2.2 y740 hy740) [86, 87, 88, 89, 90, 91, 92, 93, 94, 95, 96, 97, 98, 99, 100, 101, 102, 103] [0, 1, 2, 3, 4, 5, 6, 7, 8, 9, 10, 11, 12, 13, 14, 15, 16, 17, 18, 19, 20, 21, 22, 23, 24, 25, 26, 27, 28, 29, 30, 31, 32, 33, 34, 35, 36, 37, 38, 39, 40, 41, 42, 43, 44, 45, 46, 47, 48, 49, 50, 51, 52, 53, 54, 55, 56, 57, 58, 59, 60, 61, 62, 63, 64, 65, 66, 67, 68, 69, 70, 71, 72, 73, 74, 75, 76, 77, 78, 79, 80, 81, 82, 83, 84, 85] [0, 1, 2, 3, 4, 5, 6, 7, 8, 9, 10, 11, 12, 13, 14, 15, 16, 17, 18, 19, 20, 21, 22, 23, 24, 25, 26, 27, 28, 29, 30, 31, 32, 33, 34, 35, 36, 37, 38, 39, 40, 41, 42, 43, 44, 45, 46, 47, 48, 49, 50, 51, 52, 53, 54, 55, 56, 57, 58, 59, 60, 61, 62, 63, 64, 65, 66, 67, 68, 69, 70, 71, 72, 73, 74, 75, 76, 77, 78, 79, 80, 81, 82, 83, 84, 85, 86, 87, 88, 89, 90, 91, 92, 93, 94, 95, 96, 97, 98, 99, 100, 101, 102, 103] rfl (Wr := wX5 q ad (z18.2.1 0) ++ (wX3 q (ad 1) (z18.2.1 1) ++ (wX3 q (ad 2) (z18.2.1 2) ++ (wX3 q (ad 3) (z18.2.1 3) ++ (wX3 q (ad 4) (z18.2.1 4) ++ (wX0 q (ad 5) (z18.2.1 5) (ad 6 99) ++ (wX3 q (ad 6) (z18.2.1 6) ++ (wX1 q (ad 7) (z18.2.1 7) ++ (wX4 q (ad 8) y736.2 (ad 1 99) (ad 7 99) ++ (wX2 q (ad 9) (z18.2.1 9) ++ (wX2 q (ad 10) (z18.2.1 10) ++ (wX2 q (ad 11) (z18.2.1 11) ++ wX2 q (ad 12) (z18.2.1 12))))))))))))) rfl (by decide) (by decide) (by decide) (by decide) (fun _ => rfl) 86 rfl rfl rfl k_1195 mX6_many ⟨rfl, rfl⟩ ⟨Nat.le_of_ble_eq_true rfl, Nat.le_of_ble_eq_true rfl⟩ rfl rfl (Nat.le_of_ble_eq_true rfl) dL_law_740 ⟨Nat.le_of_ble_eq_true rfl, Nat.le_of_ble_eq_true rfl⟩ (fun H105 locs105 hP hD hS105 => ?_)
                                                have hP105 : va_P D cls (wX5 q ad (z18.2.1 0) ++ (wX3 q (ad 1) (z18.2.1 1) ++ (wX3 q (ad 2) (z18.2.1 2) ++ (wX3 q (ad 3) (z18.2.1 3) ++ (wX3 q (ad 4) (z18.2.1 4) ++ (wX0 q (ad 5) (z18.2.1 5) (ad 6 99) ++ (wX3 q (ad 6) (z18.2.1 6) ++ (wX1 q (ad 7) (z18.2.1 7) ++ (wX4 q (ad 8) y736.2 (ad 1 99) (ad 7 99) ++ (wX2 q (ad 9) (z18.2.1 9) ++ (wX2 q (ad 10) (z18.2.1 10) ++ (wX2 q (ad 11) (z18.2.1 11) ++ (wX2 q (ad 12) (z18.2.1 12) ++ wX6 q a y740.2))))))))))))) H105 := hP
                                                have hD105 : va_D (fun z : Nat => s.heap.size ≤ z) (wX5 q ad (z18.2.1 0) ++ (wX3 q (ad 1) (z18.2.1 1) ++ (wX3 q (ad 2) (z18.2.1 2) ++ (wX3 q (ad 3) (z18.2.1 3) ++ (wX3 q (ad 4) (z18.2.1 4) ++ (wX0 q (ad 5) (z18.2.1 5) (ad 6 99) ++ (wX3 q (ad 6) (z18.2.1 6) ++ (wX1 q (ad 7) (z18.2.1 7) ++ (wX4 q (ad 8) y736.2 (ad 1 99) (ad 7 99) ++ (wX2 q (ad 9) (z18.2.1 9) ++ (wX2 q (ad 10) (z18.2.1 10) ++ (wX2 q (ad 11) (z18.2.1 11) ++ (wX2 q (ad 12) (z18.2.1 12) ++ wX6 q a y740.2))))))))))))) := hD
                                                clear hP hD hP104 hD104 hS104
                                                refine lv_icmp_eq (tgt := 1367) hx hb dL_law_743 (by decide) (fun c743 => ?_) (fun c743 => ?_)
                                                · replace hm := tp hm c743
                                                  refine lv_iinc (v := (z18.1 + (5 : Int32))) (lv' := [(3, .int (z18.1 + (5 : Int32))), (2, .ref (a 99)), (1, .ref (ad 0 99)), (0, .ref b)]) hx hb dL_law_1367 hl2 (k := 3) rfl rfl (by decide) rfl (fun ls106 hl106 => ?_)
                                                  clear hl2
                                                  refine lv_goto (tgt := 18) hx hb dL_law_1370 (by decide) ?_
                                                  cases hm
                                                  exact ih18 ((z18.1 + (5 : Int32)), (mkG (z18.2.1 0) (z18.2.1 1) (z18.2.1 2) (z18.2.1 3) (z18.2.1 4) (z18.2.1 5) (z18.2.1 6) (z18.2.1 7) y736.2 (z18.2.1 9) (z18.2.1 10) (z18.2.1 11) (z18.2.1 12)), y740.2) ρ18 hz18 hK18 _ _ hP105 hD105 hS105 _ (lv_sub hl106 [1, 2, 3, 0] rfl)
                                                · replace hm := tn hm c743
                                                  refine lv_iconst (v := (0 : Int32)) hx hb dL_law_746 (by decide) ?_
                                                  cases hm
                                                  cases hz18
                                                  have hm : (some (0 : Int32) : Option Int32) = some (1 : Int32) := hK18
                                                  exact absurd (Option.some.inj hm) (by decide)
                                              · replace hm := tn hm c32_19
                                                by_cases c32_20 : ((xs (z18.1).toNatClampNeg) &&& (63 : Int32)) = (20 : Int32)
                                                · replace hm := tp hm c32_20
                                                  refine lv_tableIn (off := 716) (tgt := 748) hx hb dL_law_32 (by rw [c32_20]; decide) (by rw [c32_20]; decide) (by rw [c32_20]; rfl) (by decide) ?_
                                                  refine lv_aload_n hx hb dL_law_748 rfl (lv_at hl2 1 rfl) ?_
                                                  refine lv_aload_n hx hb dL_law_749 rfl (lv_at hl2 2 rfl) ?_
                                                  refine lv_iload_n hx hb dL_law_750 rfl (lv_at hl2 3 rfl) ?_
                                                  refine lv_iconst (v := (1 : Int32)) hx hb dL_law_751 (by decide) ?_
                                                  refine lv_iadd hx hb dL_law_752 ?_
                                                  obtain ⟨h107, hm⟩ := ckd hm
                                                  refine va_sld hx hb hX hbl hbA hS3 (inB_vp h107) dL_law_753 ?_
                                                  obtain ⟨y754, hy754, hm⟩ := bn hm
                                                  refine cVWi (As := [.int (xs ((z18.1 + (1 : Int32))).toNatClampNeg)]) (rest := []) (Wn := fun (uu : SV) => wX5 q ad (z18.2.1 0) ++ (wX3 q (ad 1) (z18.2.1 1) ++ (wX3 q (ad 2) (z18.2.1 2) ++ (wX3 q (ad 3) (z18.2.1 3) ++ (wX3 q (ad 4) (z18.2.1 4) ++ (wX0 q (ad 5) (z18.2.1 5) (ad 6 99) ++ (wX3 q (ad 6) (z18.2.1 6) ++ (wX1 q (ad 7) (z18.2.1 7) ++ (wX4 q (ad 8) uu (ad 1 99) (ad 7 99) ++ (wX2 q (ad 9) (z18.2.1 9) ++ (wX2 q (ad 10) (z18.2.1 10) ++ (wX2 q (ad 11) (z18.2.1 11) ++ (wX2 q (ad 12) (z18.2.1 12) ++ wX6 q a z18.2.2))))))))))))) X hP3 hD3 hS3 (fun _ h => h) hl2.1 (c_X5_mend l D q H3.size ad (z18.2.1 0) (z18.2.1 1) (z18.2.1 7) (z18.2.1 8) (xs ((z18.1 + (1 : Int32))).toNatClampNeg) y754 hy754) [0, 1, 2, 3, 4, 5, 6, 7, 8, 9, 10, 11, 12, 13, 14, 15, 16, 17, 68, 69, 70, 71, 72, 73, 74, 75, 76, 77] [18, 19, 20, 21, 22, 23, 24, 25, 26, 27, 28, 29, 30, 31, 32, 33, 34, 35, 36, 37, 38, 39, 40, 41, 42, 43, 44, 45, 46, 47, 48, 49, 50, 51, 52, 53, 54, 55, 56, 57, 58, 59, 60, 61, 62, 63, 64, 65, 66, 67, 78, 79, 80, 81, 82, 83, 84, 85, 86, 87, 88, 89, 90, 91, 92, 93, 94, 95, 96, 97, 98, 99, 100, 101, 102, 103] [76, 77, 78, 79, 80, 81, 82, 83, 84, 85, 86, 87, 88, 89, 90, 91, 92, 93, 0, 1, 2, 3, 4, 5, 6, 7, 8, 9, 10, 11, 12, 13, 14, 15, 16, 17, 18, 19, 20, 21, 22, 23, 24, 25, 26, 27, 28, 29, 30, 31, 32, 33, 34, 35, 36, 37, 38, 39, 40, 41, 42, 43, 44, 45, 46, 47, 48, 49, 94, 95, 96, 97, 98, 99, 100, 101, 102, 103, 50, 51, 52, 53, 54, 55, 56, 57, 58, 59, 60, 61, 62, 63, 64, 65, 66, 67, 68, 69, 70, 71, 72, 73, 74, 75] rfl (Wr := wX3 q (ad 2) (z18.2.1 2) ++ (wX3 q (ad 3) (z18.2.1 3) ++ (wX3 q (ad 4) (z18.2.1 4) ++ (wX0 q (ad 5) (z18.2.1 5) (ad 6 99) ++ (wX3 q (ad 6) (z18.2.1 6) ++ (wX2 q (ad 9) (z18.2.1 9) ++ (wX2 q (ad 10) (z18.2.1 10) ++ (wX2 q (ad 11) (z18.2.1 11) ++ (wX2 q (ad 12) (z18.2.1 12) ++ wX6 q a z18.2.2))))))))) rfl (by decide) (by decide) (by decide) (by decide) (fun _ => rfl) 0 rfl rfl rfl k_689 mX5_mend ⟨rfl, rfl⟩ ⟨Nat.le_of_ble_eq_true rfl, Nat.le_of_ble_eq_true rfl⟩ rfl rfl (Nat.le_of_ble_eq_true rfl) dL_law_754 ⟨Nat.le_of_ble_eq_true rfl, Nat.le_of_ble_eq_true rfl⟩ (fun H108 locs108 hP hD hS108 => ?_)
                                                  have hP108 : va_P D cls (wX5 q ad (z18.2.1 0) ++ (wX3 q (ad 1) (z18.2.1 1) ++ (wX3 q (ad 2) (z18.2.1 2) ++ (wX3 q (ad 3) (z18.2.1 3) ++ (wX3 q (ad 4) (z18.2.1 4) ++ (wX0 q (ad 5) (z18.2.1 5) (ad 6 99) ++ (wX3 q (ad 6) (z18.2.1 6) ++ (wX1 q (ad 7) (z18.2.1 7) ++ (wX4 q (ad 8) y754.2 (ad 1 99) (ad 7 99) ++ (wX2 q (ad 9) (z18.2.1 9) ++ (wX2 q (ad 10) (z18.2.1 10) ++ (wX2 q (ad 11) (z18.2.1 11) ++ (wX2 q (ad 12) (z18.2.1 12) ++ wX6 q a z18.2.2))))))))))))) H108 := hP
                                                  have hD108 : va_D (fun z : Nat => s.heap.size ≤ z) (wX5 q ad (z18.2.1 0) ++ (wX3 q (ad 1) (z18.2.1 1) ++ (wX3 q (ad 2) (z18.2.1 2) ++ (wX3 q (ad 3) (z18.2.1 3) ++ (wX3 q (ad 4) (z18.2.1 4) ++ (wX0 q (ad 5) (z18.2.1 5) (ad 6 99) ++ (wX3 q (ad 6) (z18.2.1 6) ++ (wX1 q (ad 7) (z18.2.1 7) ++ (wX4 q (ad 8) y754.2 (ad 1 99) (ad 7 99) ++ (wX2 q (ad 9) (z18.2.1 9) ++ (wX2 q (ad 10) (z18.2.1 10) ++ (wX2 q (ad 11) (z18.2.1 11) ++ (wX2 q (ad 12) (z18.2.1 12) ++ wX6 q a z18.2.2))))))))))))) := hD
                                                  clear hP hD hP3 hD3 hS3
                                                  refine lv_aload_n hx hb dL_law_757 rfl (lv_at hl2 0 rfl) ?_
                                                  refine lv_aload_n hx hb dL_law_758 rfl (lv_at hl2 2 rfl) ?_
                                                  refine lv_iload_n hx hb dL_law_759 rfl (lv_at hl2 3 rfl) ?_
                                                  refine lv_iconst (v := (1 : Int32)) hx hb dL_law_760 (by decide) ?_
                                                  refine lv_iadd hx hb dL_law_761 ?_
                                                  obtain ⟨h109, hm⟩ := ckd hm
                                                  refine va_sld hx hb hX hbl hbA hS108 (inB_vp h109) dL_law_762 ?_
                                                  obtain ⟨y763, hy763, hm⟩ := bn hm
                                                  refine cVWi (As := [.int (xs ((z18.1 + (1 : Int32))).toNatClampNeg)]) (rest := [.int y754.1]) (Wn := fun (uu : SV) => wX5 q ad (z18.2.1 0) ++ (wX3 q (ad 1) (z18.2.1 1) ++ (wX3 q (ad 2) (z18.2.1 2) ++ (wX3 q (ad 3) (z18.2.1 3) ++ (wX3 q (ad 4) (z18.2.1 4) ++ (wX0 q (ad 5) (z18.2.1 5) (ad 6 99) ++ (wX3 q (ad 6) (z18.2.1 6) ++ (wX1 q (ad 7) (z18.2.1 7) ++ (wX4 q (ad 8) y754.2 (ad 1 99) (ad 7 99) ++ (wX2 q (ad 9) (z18.2.1 9) ++ (wX2 q (ad 10) (z18.2.1 10) ++ (wX2 q (ad 11) (z18.2.1 11) ++ (wX2 q (ad 12) (z18.2.1 12) ++ wX6 q a uu))))))))))))) X hP108 hD108 hS108 (fun _ h => h) hl2.1 (c_X6_mend l D q H108.size a z18.2.2 (xs ((z18.1 + (1 : Int32))).toNatClampNeg) y763 hy763) [86, 87, 88, 89, 90, 91, 92, 93, 94, 95, 96, 97, 98, 99, 100, 101, 102, 103] [0, 1, 2, 3, 4, 5, 6, 7, 8, 9, 10, 11, 12, 13, 14, 15, 16, 17, 18, 19, 20, 21, 22, 23, 24, 25, 26, 27, 28, 29, 30, 31, 32, 33, 34, 35, 36, 37, 38, 39, 40, 41, 42, 43, 44, 45, 46, 47, 48, 49, 50, 51, 52, 53, 54, 55, 56, 57, 58, 59, 60, 61, 62, 63, 64, 65, 66, 67, 68, 69, 70, 71, 72, 73, 74, 75, 76, 77, 78, 79, 80, 81, 82, 83, 84, 85] [0, 1, 2, 3, 4, 5, 6, 7, 8, 9, 10, 11, 12, 13, 14, 15, 16, 17, 18, 19, 20, 21, 22, 23, 24, 25, 26, 27, 28, 29, 30, 31, 32, 33, 34, 35, 36, 37, 38, 39, 40, 41, 42, 43, 44, 45, 46, 47, 48, 49, 50, 51, 52, 53, 54, 55, 56, 57, 58, 59, 60, 61, 62, 63, 64, 65, 66, 67, 68, 69, 70, 71, 72, 73, 74, 75, 76, 77, 78, 79, 80, 81, 82, 83, 84, 85, 86, 87, 88, 89, 90, 91, 92, 93, 94, 95, 96, 97, 98, 99, 100, 101, 102, 103] rfl (Wr := wX5 q ad (z18.2.1 0) ++ (wX3 q (ad 1) (z18.2.1 1) ++ (wX3 q (ad 2) (z18.2.1 2) ++ (wX3 q (ad 3) (z18.2.1 3) ++ (wX3 q (ad 4) (z18.2.1 4) ++ (wX0 q (ad 5) (z18.2.1 5) (ad 6 99) ++ (wX3 q (ad 6) (z18.2.1 6) ++ (wX1 q (ad 7) (z18.2.1 7) ++ (wX4 q (ad 8) y754.2 (ad 1 99) (ad 7 99) ++ (wX2 q (ad 9) (z18.2.1 9) ++ (wX2 q (ad 10) (z18.2.1 10) ++ (wX2 q (ad 11) (z18.2.1 11) ++ wX2 q (ad 12) (z18.2.1 12))))))))))))) rfl (by decide) (by decide) (by decide) (by decide) (fun _ => rfl) 86 rfl rfl rfl k_1207 mX6_mend ⟨rfl, rfl⟩ ⟨Nat.le_of_ble_eq_true rfl, Nat.le_of_ble_eq_true rfl⟩ rfl rfl (Nat.le_of_ble_eq_true rfl) dL_law_763 ⟨Nat.le_of_ble_eq_true rfl, Nat.le_of_ble_eq_true rfl⟩ (fun H110 locs110 hP hD hS110 => ?_)
                                                  have hP110 : va_P D cls (wX5 q ad (z18.2.1 0) ++ (wX3 q (ad 1) (z18.2.1 1) ++ (wX3 q (ad 2) (z18.2.1 2) ++ (wX3 q (ad 3) (z18.2.1 3) ++ (wX3 q (ad 4) (z18.2.1 4) ++ (wX0 q (ad 5) (z18.2.1 5) (ad 6 99) ++ (wX3 q (ad 6) (z18.2.1 6) ++ (wX1 q (ad 7) (z18.2.1 7) ++ (wX4 q (ad 8) y754.2 (ad 1 99) (ad 7 99) ++ (wX2 q (ad 9) (z18.2.1 9) ++ (wX2 q (ad 10) (z18.2.1 10) ++ (wX2 q (ad 11) (z18.2.1 11) ++ (wX2 q (ad 12) (z18.2.1 12) ++ wX6 q a y763.2))))))))))))) H110 := hP
                                                  have hD110 : va_D (fun z : Nat => s.heap.size ≤ z) (wX5 q ad (z18.2.1 0) ++ (wX3 q (ad 1) (z18.2.1 1) ++ (wX3 q (ad 2) (z18.2.1 2) ++ (wX3 q (ad 3) (z18.2.1 3) ++ (wX3 q (ad 4) (z18.2.1 4) ++ (wX0 q (ad 5) (z18.2.1 5) (ad 6 99) ++ (wX3 q (ad 6) (z18.2.1 6) ++ (wX1 q (ad 7) (z18.2.1 7) ++ (wX4 q (ad 8) y754.2 (ad 1 99) (ad 7 99) ++ (wX2 q (ad 9) (z18.2.1 9) ++ (wX2 q (ad 10) (z18.2.1 10) ++ (wX2 q (ad 11) (z18.2.1 11) ++ (wX2 q (ad 12) (z18.2.1 12) ++ wX6 q a y763.2))))))))))))) := hD
                                                  clear hP hD hP108 hD108 hS108
                                                  refine lv_icmp_eq (tgt := 1367) hx hb dL_law_766 (by decide) (fun c766 => ?_) (fun c766 => ?_)
                                                  · replace hm := tp hm c766
                                                    refine lv_iinc (v := (z18.1 + (5 : Int32))) (lv' := [(3, .int (z18.1 + (5 : Int32))), (2, .ref (a 99)), (1, .ref (ad 0 99)), (0, .ref b)]) hx hb dL_law_1367 hl2 (k := 3) rfl rfl (by decide) rfl (fun ls111 hl111 => ?_)
                                                    clear hl2
                                                    refine lv_goto (tgt := 18) hx hb dL_law_1370 (by decide) ?_
                                                    cases hm
                                                    exact ih18 ((z18.1 + (5 : Int32)), (mkG (z18.2.1 0) (z18.2.1 1) (z18.2.1 2) (z18.2.1 3) (z18.2.1 4) (z18.2.1 5) (z18.2.1 6) (z18.2.1 7) y754.2 (z18.2.1 9) (z18.2.1 10) (z18.2.1 11) (z18.2.1 12)), y763.2) ρ18 hz18 hK18 _ _ hP110 hD110 hS110 _ (lv_sub hl111 [1, 2, 3, 0] rfl)
                                                  · replace hm := tn hm c766
                                                    refine lv_iconst (v := (0 : Int32)) hx hb dL_law_769 (by decide) ?_
                                                    cases hm
                                                    cases hz18
                                                    have hm : (some (0 : Int32) : Option Int32) = some (1 : Int32) := hK18
                                                    exact absurd (Option.some.inj hm) (by decide)
                                                · replace hm := tn hm c32_20
                                                  by_cases c32_21 : ((xs (z18.1).toNatClampNeg) &&& (63 : Int32)) = (21 : Int32)
                                                  · replace hm := tp hm c32_21
                                                    refine lv_tableIn (off := 739) (tgt := 771) hx hb dL_law_32 (by rw [c32_21]; decide) (by rw [c32_21]; decide) (by rw [c32_21]; rfl) (by decide) ?_
                                                    refine lv_aload_n hx hb dL_law_771 rfl (lv_at hl2 1 rfl) ?_
                                                    refine lv_aload_n hx hb dL_law_772 rfl (lv_at hl2 2 rfl) ?_
                                                    refine lv_iload_n hx hb dL_law_773 rfl (lv_at hl2 3 rfl) ?_
                                                    refine lv_iconst (v := (1 : Int32)) hx hb dL_law_774 (by decide) ?_
                                                    refine lv_iadd hx hb dL_law_775 ?_
                                                    obtain ⟨h112, hm⟩ := ckd hm
                                                    refine va_sld hx hb hX hbl hbA hS3 (inB_vp h112) dL_law_776 ?_
                                                    refine lv_aload_n hx hb dL_law_777 rfl (lv_at hl2 2 rfl) ?_
                                                    refine lv_iload_n hx hb dL_law_778 rfl (lv_at hl2 3 rfl) ?_
                                                    refine lv_iconst (v := (2 : Int32)) hx hb dL_law_779 (by decide) ?_
                                                    refine lv_iadd hx hb dL_law_780 ?_
                                                    obtain ⟨h113, hm⟩ := ckd hm
                                                    refine va_sld hx hb hX hbl hbA hS3 (inB_vp h113) dL_law_781 ?_
                                                    obtain ⟨y782, hy782, hm⟩ := bn hm
                                                    refine cVWi (As := [.int (xs ((z18.1 + (1 : Int32))).toNatClampNeg), .int (xs ((z18.1 + (2 : Int32))).toNatClampNeg)]) (rest := []) (Wn := fun (uu : SV) => wX5 q ad (z18.2.1 0) ++ (wX3 q (ad 1) (z18.2.1 1) ++ (wX3 q (ad 2) (z18.2.1 2) ++ (wX3 q (ad 3) (z18.2.1 3) ++ (wX3 q (ad 4) (z18.2.1 4) ++ (wX0 q (ad 5) (z18.2.1 5) (ad 6 99) ++ (wX3 q (ad 6) (z18.2.1 6) ++ (wX1 q (ad 7) (z18.2.1 7) ++ (wX4 q (ad 8) uu (ad 1 99) (ad 7 99) ++ (wX2 q (ad 9) (z18.2.1 9) ++ (wX2 q (ad 10) (z18.2.1 10) ++ (wX2 q (ad 11) (z18.2.1 11) ++ (wX2 q (ad 12) (z18.2.1 12) ++ wX6 q a z18.2.2))))))))))))) X hP3 hD3 hS3 (fun _ h => h) hl2.1 (c_X5_cheap l D q H3.size ad (z18.2.1 0) (z18.2.1 1) (z18.2.1 7) (z18.2.1 8) (xs ((z18.1 + (1 : Int32))).toNatClampNeg) (xs ((z18.1 + (2 : Int32))).toNatClampNeg) y782 hy782) [0, 1, 2, 3, 4, 5, 6, 7, 8, 9, 10, 11, 12, 13, 14, 15, 16, 17, 68, 69, 70, 71, 72, 73, 74, 75, 76, 77] [18, 19, 20, 21, 22, 23, 24, 25, 26, 27, 28, 29, 30, 31, 32, 33, 34, 35, 36, 37, 38, 39, 40, 41, 42, 43, 44, 45, 46, 47, 48, 49, 50, 51, 52, 53, 54, 55, 56, 57, 58, 59, 60, 61, 62, 63, 64, 65, 66, 67, 78, 79, 80, 81, 82, 83, 84, 85, 86, 87, 88, 89, 90, 91, 92, 93, 94, 95, 96, 97, 98, 99, 100, 101, 102, 103] [76, 77, 78, 79, 80, 81, 82, 83, 84, 85, 86, 87, 88, 89, 90, 91, 92, 93, 0, 1, 2, 3, 4, 5, 6, 7, 8, 9, 10, 11, 12, 13, 14, 15, 16, 17, 18, 19, 20, 21, 22, 23, 24, 25, 26, 27, 28, 29, 30, 31, 32, 33, 34, 35, 36, 37, 38, 39, 40, 41, 42, 43, 44, 45, 46, 47, 48, 49, 94, 95, 96, 97, 98, 99, 100, 101, 102, 103, 50, 51, 52, 53, 54, 55, 56, 57, 58, 59, 60, 61, 62, 63, 64, 65, 66, 67, 68, 69, 70, 71, 72, 73, 74, 75] rfl (Wr := wX3 q (ad 2) (z18.2.1 2) ++ (wX3 q (ad 3) (z18.2.1 3) ++ (wX3 q (ad 4) (z18.2.1 4) ++ (wX0 q (ad 5) (z18.2.1 5) (ad 6 99) ++ (wX3 q (ad 6) (z18.2.1 6) ++ (wX2 q (ad 9) (z18.2.1 9) ++ (wX2 q (ad 10) (z18.2.1 10) ++ (wX2 q (ad 11) (z18.2.1 11) ++ (wX2 q (ad 12) (z18.2.1 12) ++ wX6 q a z18.2.2))))))))) rfl (by decide) (by decide) (by decide) (by decide) (fun _ => rfl) 0 rfl rfl rfl k_706 mX5_cheap ⟨rfl, rfl⟩ ⟨Nat.le_of_ble_eq_true rfl, Nat.le_of_ble_eq_true rfl⟩ rfl rfl (Nat.le_of_ble_eq_true rfl) dL_law_782 ⟨Nat.le_of_ble_eq_true rfl, Nat.le_of_ble_eq_true rfl⟩ (fun H114 locs114 hP hD hS114 => ?_)
                                                    have hP114 : va_P D cls (wX5 q ad (z18.2.1 0) ++ (wX3 q (ad 1) (z18.2.1 1) ++ (wX3 q (ad 2) (z18.2.1 2) ++ (wX3 q (ad 3) (z18.2.1 3) ++ (wX3 q (ad 4) (z18.2.1 4) ++ (wX0 q (ad 5) (z18.2.1 5) (ad 6 99) ++ (wX3 q (ad 6) (z18.2.1 6) ++ (wX1 q (ad 7) (z18.2.1 7) ++ (wX4 q (ad 8) y782.2 (ad 1 99) (ad 7 99) ++ (wX2 q (ad 9) (z18.2.1 9) ++ (wX2 q (ad 10) (z18.2.1 10) ++ (wX2 q (ad 11) (z18.2.1 11) ++ (wX2 q (ad 12) (z18.2.1 12) ++ wX6 q a z18.2.2))))))))))))) H114 := hP
                                                    have hD114 : va_D (fun z : Nat => s.heap.size ≤ z) (wX5 q ad (z18.2.1 0) ++ (wX3 q (ad 1) (z18.2.1 1) ++ (wX3 q (ad 2) (z18.2.1 2) ++ (wX3 q (ad 3) (z18.2.1 3) ++ (wX3 q (ad 4) (z18.2.1 4) ++ (wX0 q (ad 5) (z18.2.1 5) (ad 6 99) ++ (wX3 q (ad 6) (z18.2.1 6) ++ (wX1 q (ad 7) (z18.2.1 7) ++ (wX4 q (ad 8) y782.2 (ad 1 99) (ad 7 99) ++ (wX2 q (ad 9) (z18.2.1 9) ++ (wX2 q (ad 10) (z18.2.1 10) ++ (wX2 q (ad 11) (z18.2.1 11) ++ (wX2 q (ad 12) (z18.2.1 12) ++ wX6 q a z18.2.2))))))))))))) := hD
                                                    clear hP hD hP3 hD3 hS3
                                                    refine lv_aload_n hx hb dL_law_785 rfl (lv_at hl2 0 rfl) ?_
                                                    refine lv_aload_n hx hb dL_law_786 rfl (lv_at hl2 2 rfl) ?_
                                                    refine lv_iload_n hx hb dL_law_787 rfl (lv_at hl2 3 rfl) ?_
                                                    refine lv_iconst (v := (1 : Int32)) hx hb dL_law_788 (by decide) ?_
                                                    refine lv_iadd hx hb dL_law_789 ?_
                                                    obtain ⟨h115, hm⟩ := ckd hm
                                                    refine va_sld hx hb hX hbl hbA hS114 (inB_vp h115) dL_law_790 ?_
                                                    refine lv_aload_n hx hb dL_law_791 rfl (lv_at hl2 2 rfl) ?_
                                                    refine lv_iload_n hx hb dL_law_792 rfl (lv_at hl2 3 rfl) ?_
                                                    refine lv_iconst (v := (2 : Int32)) hx hb dL_law_793 (by decide) ?_
                                                    refine lv_iadd hx hb dL_law_794 ?_
                                                    obtain ⟨h116, hm⟩ := ckd hm
                                                    refine va_sld hx hb hX hbl hbA hS114 (inB_vp h116) dL_law_795 ?_
                                                    obtain ⟨y796, hy796, hm⟩ := bn hm
                                                    refine cVWi (As := [.int (xs ((z18.1 + (1 : Int32))).toNatClampNeg), .int (xs ((z18.1 + (2 : Int32))).toNatClampNeg)]) (rest := [.int y782.1]) (Wn := fun (uu : SV) => wX5 q ad (z18.2.1 0) ++ (wX3 q (ad 1) (z18.2.1 1) ++ (wX3 q (ad 2) (z18.2.1 2) ++ (wX3 q (ad 3) (z18.2.1 3) ++ (wX3 q (ad 4) (z18.2.1 4) ++ (wX0 q (ad 5) (z18.2.1 5) (ad 6 99) ++ (wX3 q (ad 6) (z18.2.1 6) ++ (wX1 q (ad 7) (z18.2.1 7) ++ (wX4 q (ad 8) y782.2 (ad 1 99) (ad 7 99) ++ (wX2 q (ad 9) (z18.2.1 9) ++ (wX2 q (ad 10) (z18.2.1 10) ++ (wX2 q (ad 11) (z18.2.1 11) ++ (wX2 q (ad 12) (z18.2.1 12) ++ wX6 q a uu))))))))))))) X hP114 hD114 hS114 (fun _ h => h) hl2.1 (c_X6_cheap l D q H114.size a z18.2.2 (xs ((z18.1 + (1 : Int32))).toNatClampNeg) (xs ((z18.1 + (2 : Int32))).toNatClampNeg) y796 hy796) [86, 87, 88, 89, 90, 91, 92, 93, 94, 95, 96, 97, 98, 99, 100, 101, 102, 103] [0, 1, 2, 3, 4, 5, 6, 7, 8, 9, 10, 11, 12, 13, 14, 15, 16, 17, 18, 19, 20, 21, 22, 23, 24, 25, 26, 27, 28, 29, 30, 31, 32, 33, 34, 35, 36, 37, 38, 39, 40, 41, 42, 43, 44, 45, 46, 47, 48, 49, 50, 51, 52, 53, 54, 55, 56, 57, 58, 59, 60, 61, 62, 63, 64, 65, 66, 67, 68, 69, 70, 71, 72, 73, 74, 75, 76, 77, 78, 79, 80, 81, 82, 83, 84, 85] [0, 1, 2, 3, 4, 5, 6, 7, 8, 9, 10, 11, 12, 13, 14, 15, 16, 17, 18, 19, 20, 21, 22, 23, 24, 25, 26, 27, 28, 29, 30, 31, 32, 33, 34, 35, 36, 37, 38, 39, 40, 41, 42, 43, 44, 45, 46, 47, 48, 49, 50, 51, 52, 53, 54, 55, 56, 57, 58, 59, 60, 61, 62, 63, 64, 65, 66, 67, 68, 69, 70, 71, 72, 73, 74, 75, 76, 77, 78, 79, 80, 81, 82, 83, 84, 85, 86, 87, 88, 89, 90, 91, 92, 93, 94, 95, 96, 97, 98, 99, 100, 101, 102, 103] rfl (Wr := wX5 q ad (z18.2.1 0) ++ (wX3 q (ad 1) (z18.2.1 1) ++ (wX3 q (ad 2) (z18.2.1 2) ++ (wX3 q (ad 3) (z18.2.1 3) ++ (wX3 q (ad 4) (z18.2.1 4) ++ (wX0 q (ad 5) (z18.2.1 5) (ad 6 99) ++ (wX3 q (ad 6) (z18.2.1 6) ++ (wX1 q (ad 7) (z18.2.1 7) ++ (wX4 q (ad 8) y782.2 (ad 1 99) (ad 7 99) ++ (wX2 q (ad 9) (z18.2.1 9) ++ (wX2 q (ad 10) (z18.2.1 10) ++ (wX2 q (ad 11) (z18.2.1 11) ++ wX2 q (ad 12) (z18.2.1 12))))))))))))) rfl (by decide) (by decide) (by decide) (by decide) (fun _ => rfl) 86 rfl rfl rfl k_1212 mX6_cheap ⟨rfl, rfl⟩ ⟨Nat.le_of_ble_eq_true rfl, Nat.le_of_ble_eq_true rfl⟩ rfl rfl (Nat.le_of_ble_eq_true rfl) dL_law_796 ⟨Nat.le_of_ble_eq_true rfl, Nat.le_of_ble_eq_true rfl⟩ (fun H117 locs117 hP hD hS117 => ?_)
                                                    have hP117 : va_P D cls (wX5 q ad (z18.2.1 0) ++ (wX3 q (ad 1) (z18.2.1 1) ++ (wX3 q (ad 2) (z18.2.1 2) ++ (wX3 q (ad 3) (z18.2.1 3) ++ (wX3 q (ad 4) (z18.2.1 4) ++ (wX0 q (ad 5) (z18.2.1 5) (ad 6 99) ++ (wX3 q (ad 6) (z18.2.1 6) ++ (wX1 q (ad 7) (z18.2.1 7) ++ (wX4 q (ad 8) y782.2 (ad 1 99) (ad 7 99) ++ (wX2 q (ad 9) (z18.2.1 9) ++ (wX2 q (ad 10) (z18.2.1 10) ++ (wX2 q (ad 11) (z18.2.1 11) ++ (wX2 q (ad 12) (z18.2.1 12) ++ wX6 q a y796.2))))))))))))) H117 := hP
                                                    have hD117 : va_D (fun z : Nat => s.heap.size ≤ z) (wX5 q ad (z18.2.1 0) ++ (wX3 q (ad 1) (z18.2.1 1) ++ (wX3 q (ad 2) (z18.2.1 2) ++ (wX3 q (ad 3) (z18.2.1 3) ++ (wX3 q (ad 4) (z18.2.1 4) ++ (wX0 q (ad 5) (z18.2.1 5) (ad 6 99) ++ (wX3 q (ad 6) (z18.2.1 6) ++ (wX1 q (ad 7) (z18.2.1 7) ++ (wX4 q (ad 8) y782.2 (ad 1 99) (ad 7 99) ++ (wX2 q (ad 9) (z18.2.1 9) ++ (wX2 q (ad 10) (z18.2.1 10) ++ (wX2 q (ad 11) (z18.2.1 11) ++ (wX2 q (ad 12) (z18.2.1 12) ++ wX6 q a y796.2))))))))))))) := hD
                                                    clear hP hD hP114 hD114 hS114
                                                    refine lv_icmp_eq (tgt := 1367) hx hb dL_law_799 (by decide) (fun c799 => ?_) (fun c799 => ?_)
                                                    · replace hm := tp hm c799
                                                      refine lv_iinc (v := (z18.1 + (5 : Int32))) (lv' := [(3, .int (z18.1 + (5 : Int32))), (2, .ref (a 99)), (1, .ref (ad 0 99)), (0, .ref b)]) hx hb dL_law_1367 hl2 (k := 3) rfl rfl (by decide) rfl (fun ls118 hl118 => ?_)
                                                      clear hl2
                                                      refine lv_goto (tgt := 18) hx hb dL_law_1370 (by decide) ?_
                                                      cases hm
                                                      exact ih18 ((z18.1 + (5 : Int32)), (mkG (z18.2.1 0) (z18.2.1 1) (z18.2.1 2) (z18.2.1 3) (z18.2.1 4) (z18.2.1 5) (z18.2.1 6) (z18.2.1 7) y782.2 (z18.2.1 9) (z18.2.1 10) (z18.2.1 11) (z18.2.1 12)), y796.2) ρ18 hz18 hK18 _ _ hP117 hD117 hS117 _ (lv_sub hl118 [1, 2, 3, 0] rfl)
                                                    · replace hm := tn hm c799
                                                      refine lv_iconst (v := (0 : Int32)) hx hb dL_law_802 (by decide) ?_
                                                      cases hm
                                                      cases hz18
                                                      have hm : (some (0 : Int32) : Option Int32) = some (1 : Int32) := hK18
                                                      exact absurd (Option.some.inj hm) (by decide)
                                                  · replace hm := tn hm c32_21
                                                    by_cases c32_22 : ((xs (z18.1).toNatClampNeg) &&& (63 : Int32)) = (22 : Int32)
                                                    · replace hm := tp hm c32_22
                                                      refine lv_tableIn (off := 772) (tgt := 804) hx hb dL_law_32 (by rw [c32_22]; decide) (by rw [c32_22]; decide) (by rw [c32_22]; rfl) (by decide) ?_
                                                      refine lv_aload_n hx hb dL_law_804 rfl (lv_at hl2 1 rfl) ?_
                                                      refine lv_aload_n hx hb dL_law_805 rfl (lv_at hl2 2 rfl) ?_
                                                      refine lv_iload_n hx hb dL_law_806 rfl (lv_at hl2 3 rfl) ?_
                                                      refine lv_iconst (v := (1 : Int32)) hx hb dL_law_807 (by decide) ?_
                                                      refine lv_iadd hx hb dL_law_808 ?_
                                                      obtain ⟨h119, hm⟩ := ckd hm
                                                      refine va_sld hx hb hX hbl hbA hS3 (inB_vp h119) dL_law_809 ?_
                                                      obtain ⟨y810, hy810, hm⟩ := bn hm
                                                      refine cVWi (As := [.int (xs ((z18.1 + (1 : Int32))).toNatClampNeg)]) (rest := []) (Wn := fun (uu : SV) => wX5 q ad (z18.2.1 0) ++ (wX3 q (ad 1) (z18.2.1 1) ++ (wX3 q (ad 2) uu ++ (wX3 q (ad 3) (z18.2.1 3) ++ (wX3 q (ad 4) (z18.2.1 4) ++ (wX0 q (ad 5) (z18.2.1 5) (ad 6 99) ++ (wX3 q (ad 6) (z18.2.1 6) ++ (wX1 q (ad 7) (z18.2.1 7) ++ (wX4 q (ad 8) (z18.2.1 8) (ad 1 99) (ad 7 99) ++ (wX2 q (ad 9) (z18.2.1 9) ++ (wX2 q (ad 10) (z18.2.1 10) ++ (wX2 q (ad 11) (z18.2.1 11) ++ (wX2 q (ad 12) (z18.2.1 12) ++ wX6 q a z18.2.2))))))))))))) X hP3 hD3 hS3 (fun _ h => h) hl2.1 (c_X5_next l D q H3.size ad (z18.2.1 0) (z18.2.1 1) (z18.2.1 2) (xs ((z18.1 + (1 : Int32))).toNatClampNeg) y810 hy810) [0, 1, 2, 3, 4, 5, 6, 7, 8, 9, 10, 11, 12, 13, 14, 15, 16, 17, 18, 19, 20, 21, 22, 23, 24, 25, 26, 27, 28, 29] [30, 31, 32, 33, 34, 35, 36, 37, 38, 39, 40, 41, 42, 43, 44, 45, 46, 47, 48, 49, 50, 51, 52, 53, 54, 55, 56, 57, 58, 59, 60, 61, 62, 63, 64, 65, 66, 67, 68, 69, 70, 71, 72, 73, 74, 75, 76, 77, 78, 79, 80, 81, 82, 83, 84, 85, 86, 87, 88, 89, 90, 91, 92, 93, 94, 95, 96, 97, 98, 99, 100, 101, 102, 103] [74, 75, 76, 77, 78, 79, 80, 81, 82, 83, 84, 85, 86, 87, 88, 89, 90, 91, 92, 93, 94, 95, 96, 97, 98, 99, 100, 101, 102, 103, 0, 1, 2, 3, 4, 5, 6, 7, 8, 9, 10, 11, 12, 13, 14, 15, 16, 17, 18, 19, 20, 21, 22, 23, 24, 25, 26, 27, 28, 29, 30, 31, 32, 33, 34, 35, 36, 37, 38, 39, 40, 41, 42, 43, 44, 45, 46, 47, 48, 49, 50, 51, 52, 53, 54, 55, 56, 57, 58, 59, 60, 61, 62, 63, 64, 65, 66, 67, 68, 69, 70, 71, 72, 73] rfl (Wr := wX3 q (ad 3) (z18.2.1 3) ++ (wX3 q (ad 4) (z18.2.1 4) ++ (wX0 q (ad 5) (z18.2.1 5) (ad 6 99) ++ (wX3 q (ad 6) (z18.2.1 6) ++ (wX1 q (ad 7) (z18.2.1 7) ++ (wX4 q (ad 8) (z18.2.1 8) (ad 1 99) (ad 7 99) ++ (wX2 q (ad 9) (z18.2.1 9) ++ (wX2 q (ad 10) (z18.2.1 10) ++ (wX2 q (ad 11) (z18.2.1 11) ++ (wX2 q (ad 12) (z18.2.1 12) ++ wX6 q a z18.2.2)))))))))) rfl (by decide) (by decide) (by decide) (by decide) (fun _ => rfl) 0 rfl rfl rfl k_714 mX5_next ⟨rfl, rfl⟩ ⟨Nat.le_of_ble_eq_true rfl, Nat.le_of_ble_eq_true rfl⟩ rfl rfl (Nat.le_of_ble_eq_true rfl) dL_law_810 ⟨Nat.le_of_ble_eq_true rfl, Nat.le_of_ble_eq_true rfl⟩ (fun H120 locs120 hP hD hS120 => ?_)
                                                      have hP120 : va_P D cls (wX5 q ad (z18.2.1 0) ++ (wX3 q (ad 1) (z18.2.1 1) ++ (wX3 q (ad 2) y810.2 ++ (wX3 q (ad 3) (z18.2.1 3) ++ (wX3 q (ad 4) (z18.2.1 4) ++ (wX0 q (ad 5) (z18.2.1 5) (ad 6 99) ++ (wX3 q (ad 6) (z18.2.1 6) ++ (wX1 q (ad 7) (z18.2.1 7) ++ (wX4 q (ad 8) (z18.2.1 8) (ad 1 99) (ad 7 99) ++ (wX2 q (ad 9) (z18.2.1 9) ++ (wX2 q (ad 10) (z18.2.1 10) ++ (wX2 q (ad 11) (z18.2.1 11) ++ (wX2 q (ad 12) (z18.2.1 12) ++ wX6 q a z18.2.2))))))))))))) H120 := hP
                                                      have hD120 : va_D (fun z : Nat => s.heap.size ≤ z) (wX5 q ad (z18.2.1 0) ++ (wX3 q (ad 1) (z18.2.1 1) ++ (wX3 q (ad 2) y810.2 ++ (wX3 q (ad 3) (z18.2.1 3) ++ (wX3 q (ad 4) (z18.2.1 4) ++ (wX0 q (ad 5) (z18.2.1 5) (ad 6 99) ++ (wX3 q (ad 6) (z18.2.1 6) ++ (wX1 q (ad 7) (z18.2.1 7) ++ (wX4 q (ad 8) (z18.2.1 8) (ad 1 99) (ad 7 99) ++ (wX2 q (ad 9) (z18.2.1 9) ++ (wX2 q (ad 10) (z18.2.1 10) ++ (wX2 q (ad 11) (z18.2.1 11) ++ (wX2 q (ad 12) (z18.2.1 12) ++ wX6 q a z18.2.2))))))))))))) := hD
                                                      clear hP hD hP3 hD3 hS3
                                                      refine lv_aload_n hx hb dL_law_813 rfl (lv_at hl2 0 rfl) ?_
                                                      refine lv_aload_n hx hb dL_law_814 rfl (lv_at hl2 2 rfl) ?_
                                                      refine lv_iload_n hx hb dL_law_815 rfl (lv_at hl2 3 rfl) ?_
                                                      refine lv_iconst (v := (1 : Int32)) hx hb dL_law_816 (by decide) ?_
                                                      refine lv_iadd hx hb dL_law_817 ?_
                                                      obtain ⟨h121, hm⟩ := ckd hm
                                                      refine va_sld hx hb hX hbl hbA hS120 (inB_vp h121) dL_law_818 ?_
                                                      obtain ⟨y819, hy819, hm⟩ := bn hm
                                                      refine cVWi (As := [.int (xs ((z18.1 + (1 : Int32))).toNatClampNeg)]) (rest := [.int y810.1]) (Wn := fun (uu : SV) => wX5 q ad (z18.2.1 0) ++ (wX3 q (ad 1) (z18.2.1 1) ++ (wX3 q (ad 2) y810.2 ++ (wX3 q (ad 3) (z18.2.1 3) ++ (wX3 q (ad 4) (z18.2.1 4) ++ (wX0 q (ad 5) (z18.2.1 5) (ad 6 99) ++ (wX3 q (ad 6) (z18.2.1 6) ++ (wX1 q (ad 7) (z18.2.1 7) ++ (wX4 q (ad 8) (z18.2.1 8) (ad 1 99) (ad 7 99) ++ (wX2 q (ad 9) (z18.2.1 9) ++ (wX2 q (ad 10) (z18.2.1 10) ++ (wX2 q (ad 11) (z18.2.1 11) ++ (wX2 q (ad 12) (z18.2.1 12) ++ wX6 q a uu))))))))))))) X hP120 hD120 hS120 (fun _ h => h) hl2.1 (c_X6_next l D q H120.size a z18.2.2 (xs ((z18.1 + (1 : Int32))).toNatClampNeg) y819 hy819) [86, 87, 88, 89, 90, 91, 92, 93, 94, 95, 96, 97, 98, 99, 100, 101, 102, 103] [0, 1, 2, 3, 4, 5, 6, 7, 8, 9, 10, 11, 12, 13, 14, 15, 16, 17, 18, 19, 20, 21, 22, 23, 24, 25, 26, 27, 28, 29, 30, 31, 32, 33, 34, 35, 36, 37, 38, 39, 40, 41, 42, 43, 44, 45, 46, 47, 48, 49, 50, 51, 52, 53, 54, 55, 56, 57, 58, 59, 60, 61, 62, 63, 64, 65, 66, 67, 68, 69, 70, 71, 72, 73, 74, 75, 76, 77, 78, 79, 80, 81, 82, 83, 84, 85] [0, 1, 2, 3, 4, 5, 6, 7, 8, 9, 10, 11, 12, 13, 14, 15, 16, 17, 18, 19, 20, 21, 22, 23, 24, 25, 26, 27, 28, 29, 30, 31, 32, 33, 34, 35, 36, 37, 38, 39, 40, 41, 42, 43, 44, 45, 46, 47, 48, 49, 50, 51, 52, 53, 54, 55, 56, 57, 58, 59, 60, 61, 62, 63, 64, 65, 66, 67, 68, 69, 70, 71, 72, 73, 74, 75, 76, 77, 78, 79, 80, 81, 82, 83, 84, 85, 86, 87, 88, 89, 90, 91, 92, 93, 94, 95, 96, 97, 98, 99, 100, 101, 102, 103] rfl (Wr := wX5 q ad (z18.2.1 0) ++ (wX3 q (ad 1) (z18.2.1 1) ++ (wX3 q (ad 2) y810.2 ++ (wX3 q (ad 3) (z18.2.1 3) ++ (wX3 q (ad 4) (z18.2.1 4) ++ (wX0 q (ad 5) (z18.2.1 5) (ad 6 99) ++ (wX3 q (ad 6) (z18.2.1 6) ++ (wX1 q (ad 7) (z18.2.1 7) ++ (wX4 q (ad 8) (z18.2.1 8) (ad 1 99) (ad 7 99) ++ (wX2 q (ad 9) (z18.2.1 9) ++ (wX2 q (ad 10) (z18.2.1 10) ++ (wX2 q (ad 11) (z18.2.1 11) ++ wX2 q (ad 12) (z18.2.1 12))))))))))))) rfl (by decide) (by decide) (by decide) (by decide) (fun _ => rfl) 86 rfl rfl rfl k_1221 mX6_next ⟨rfl, rfl⟩ ⟨Nat.le_of_ble_eq_true rfl, Nat.le_of_ble_eq_true rfl⟩ rfl rfl (Nat.le_of_ble_eq_true rfl) dL_law_819 ⟨Nat.le_of_ble_eq_true rfl, Nat.le_of_ble_eq_true rfl⟩ (fun H122 locs122 hP hD hS122 => ?_)
                                                      have hP122 : va_P D cls (wX5 q ad (z18.2.1 0) ++ (wX3 q (ad 1) (z18.2.1 1) ++ (wX3 q (ad 2) y810.2 ++ (wX3 q (ad 3) (z18.2.1 3) ++ (wX3 q (ad 4) (z18.2.1 4) ++ (wX0 q (ad 5) (z18.2.1 5) (ad 6 99) ++ (wX3 q (ad 6) (z18.2.1 6) ++ (wX1 q (ad 7) (z18.2.1 7) ++ (wX4 q (ad 8) (z18.2.1 8) (ad 1 99) (ad 7 99) ++ (wX2 q (ad 9) (z18.2.1 9) ++ (wX2 q (ad 10) (z18.2.1 10) ++ (wX2 q (ad 11) (z18.2.1 11) ++ (wX2 q (ad 12) (z18.2.1 12) ++ wX6 q a y819.2))))))))))))) H122 := hP
                                                      have hD122 : va_D (fun z : Nat => s.heap.size ≤ z) (wX5 q ad (z18.2.1 0) ++ (wX3 q (ad 1) (z18.2.1 1) ++ (wX3 q (ad 2) y810.2 ++ (wX3 q (ad 3) (z18.2.1 3) ++ (wX3 q (ad 4) (z18.2.1 4) ++ (wX0 q (ad 5) (z18.2.1 5) (ad 6 99) ++ (wX3 q (ad 6) (z18.2.1 6) ++ (wX1 q (ad 7) (z18.2.1 7) ++ (wX4 q (ad 8) (z18.2.1 8) (ad 1 99) (ad 7 99) ++ (wX2 q (ad 9) (z18.2.1 9) ++ (wX2 q (ad 10) (z18.2.1 10) ++ (wX2 q (ad 11) (z18.2.1 11) ++ (wX2 q (ad 12) (z18.2.1 12) ++ wX6 q a y819.2))))))))))))) := hD
                                                      clear hP hD hP120 hD120 hS120
                                                      refine lv_icmp_eq (tgt := 1367) hx hb dL_law_822 (by decide) (fun c822 => ?_) (fun c822 => ?_)
                                                      · replace hm := tp hm c822
                                                        refine lv_iinc (v := (z18.1 + (5 : Int32))) (lv' := [(3, .int (z18.1 + (5 : Int32))), (2, .ref (a 99)), (1, .ref (ad 0 99)), (0, .ref b)]) hx hb dL_law_1367 hl2 (k := 3) rfl rfl (by decide) rfl (fun ls123 hl123 => ?_)
                                                        clear hl2
                                                        refine lv_goto (tgt := 18) hx hb dL_law_1370 (by decide) ?_
                                                        cases hm
                                                        exact ih18 ((z18.1 + (5 : Int32)), (mkG (z18.2.1 0) (z18.2.1 1) y810.2 (z18.2.1 3) (z18.2.1 4) (z18.2.1 5) (z18.2.1 6) (z18.2.1 7) (z18.2.1 8) (z18.2.1 9) (z18.2.1 10) (z18.2.1 11) (z18.2.1 12)), y819.2) ρ18 hz18 hK18 _ _ hP122 hD122 hS122 _ (lv_sub hl123 [1, 2, 3, 0] rfl)
                                                      · replace hm := tn hm c822
                                                        refine lv_iconst (v := (0 : Int32)) hx hb dL_law_825 (by decide) ?_
                                                        cases hm
                                                        cases hz18
                                                        have hm : (some (0 : Int32) : Option Int32) = some (1 : Int32) := hK18
                                                        exact absurd (Option.some.inj hm) (by decide)
                                                    · replace hm := tn hm c32_22
                                                      by_cases c32_23 : ((xs (z18.1).toNatClampNeg) &&& (63 : Int32)) = (23 : Int32)
                                                      · replace hm := tp hm c32_23
                                                        refine lv_tableIn (off := 795) (tgt := 827) hx hb dL_law_32 (by rw [c32_23]; decide) (by rw [c32_23]; decide) (by rw [c32_23]; rfl) (by decide) ?_
                                                        refine lv_aload_n hx hb dL_law_827 rfl (lv_at hl2 1 rfl) ?_
                                                        refine lv_aload_n hx hb dL_law_828 rfl (lv_at hl2 2 rfl) ?_
                                                        refine lv_iload_n hx hb dL_law_829 rfl (lv_at hl2 3 rfl) ?_
                                                        refine lv_iconst (v := (1 : Int32)) hx hb dL_law_830 (by decide) ?_
                                                        refine lv_iadd hx hb dL_law_831 ?_
                                                        obtain ⟨h124, hm⟩ := ckd hm
                                                        refine va_sld hx hb hX hbl hbA hS3 (inB_vp h124) dL_law_832 ?_
                                                        obtain ⟨y833, hy833, hm⟩ := bn hm
                                                        refine cVRi (As := [.int (xs ((z18.1 + (1 : Int32))).toNatClampNeg)]) (rest := []) X hP3 hl2.1 (c_X5_value l D q ad (z18.2.1 0) (z18.2.1 1) (xs ((z18.1 + (1 : Int32))).toNatClampNeg) y833 hy833) [0, 1, 2, 3, 4, 5, 6, 7, 8, 9, 10, 11, 12, 13, 14, 15, 16, 17] rfl 0 rfl rfl rfl k_724 mX5_value ⟨rfl, rfl⟩ ⟨Nat.le_of_ble_eq_true rfl, Nat.le_of_ble_eq_true rfl⟩ rfl rfl (Nat.le_of_ble_eq_true rfl) dL_law_833 ⟨Nat.le_of_ble_eq_true rfl, Nat.le_of_ble_eq_true rfl⟩ ?_
                                                        refine lv_aload_n hx hb dL_law_836 rfl (lv_at hl2 0 rfl) ?_
                                                        refine lv_aload_n hx hb dL_law_837 rfl (lv_at hl2 2 rfl) ?_
                                                        refine lv_iload_n hx hb dL_law_838 rfl (lv_at hl2 3 rfl) ?_
                                                        refine lv_iconst (v := (1 : Int32)) hx hb dL_law_839 (by decide) ?_
                                                        refine lv_iadd hx hb dL_law_840 ?_
                                                        obtain ⟨h125, hm⟩ := ckd hm
                                                        refine va_sld hx hb hX hbl hbA hS3 (inB_vp h125) dL_law_841 ?_
                                                        obtain ⟨y842, hy842, hm⟩ := bn hm
                                                        refine cVRi (As := [.int (xs ((z18.1 + (1 : Int32))).toNatClampNeg)]) (rest := [.int y833]) X hP3 hl2.1 (c_X6_value l D q a z18.2.2 (xs ((z18.1 + (1 : Int32))).toNatClampNeg) y842 hy842) [86, 87, 88, 89, 90, 91, 92, 93, 94, 95, 96, 97, 98, 99, 100, 101, 102, 103] rfl 86 rfl rfl rfl k_1229 mX6_value ⟨rfl, rfl⟩ ⟨Nat.le_of_ble_eq_true rfl, Nat.le_of_ble_eq_true rfl⟩ rfl rfl (Nat.le_of_ble_eq_true rfl) dL_law_842 ⟨Nat.le_of_ble_eq_true rfl, Nat.le_of_ble_eq_true rfl⟩ ?_
                                                        refine lv_icmp_eq (tgt := 1367) hx hb dL_law_845 (by decide) (fun c845 => ?_) (fun c845 => ?_)
                                                        · replace hm := tp hm c845
                                                          refine lv_iinc (v := (z18.1 + (5 : Int32))) (lv' := [(3, .int (z18.1 + (5 : Int32))), (2, .ref (a 99)), (1, .ref (ad 0 99)), (0, .ref b)]) hx hb dL_law_1367 hl2 (k := 3) rfl rfl (by decide) rfl (fun ls126 hl126 => ?_)
                                                          clear hl2
                                                          refine lv_goto (tgt := 18) hx hb dL_law_1370 (by decide) ?_
                                                          cases hm
                                                          exact ih18 ((z18.1 + (5 : Int32)), z18.2.1, z18.2.2) ρ18 hz18 hK18 _ _ hP3 hD3 hS3 _ (lv_sub hl126 [1, 2, 3, 0] rfl)
                                                        · replace hm := tn hm c845
                                                          refine lv_iconst (v := (0 : Int32)) hx hb dL_law_848 (by decide) ?_
                                                          cases hm
                                                          cases hz18
                                                          have hm : (some (0 : Int32) : Option Int32) = some (1 : Int32) := hK18
                                                          exact absurd (Option.some.inj hm) (by decide)
                                                      · replace hm := tn hm c32_23
                                                        by_cases c32_24 : ((xs (z18.1).toNatClampNeg) &&& (63 : Int32)) = (24 : Int32)
                                                        · replace hm := tp hm c32_24
                                                          refine lv_tableIn (off := 818) (tgt := 850) hx hb dL_law_32 (by rw [c32_24]; decide) (by rw [c32_24]; decide) (by rw [c32_24]; rfl) (by decide) ?_
                                                          refine lv_aload_n hx hb dL_law_850 rfl (lv_at hl2 1 rfl) ?_
                                                          refine lv_aload_n hx hb dL_law_851 rfl (lv_at hl2 2 rfl) ?_
                                                          refine lv_iload_n hx hb dL_law_852 rfl (lv_at hl2 3 rfl) ?_
                                                          refine lv_iconst (v := (1 : Int32)) hx hb dL_law_853 (by decide) ?_
                                                          refine lv_iadd hx hb dL_law_854 ?_
                                                          obtain ⟨h127, hm⟩ := ckd hm
                                                          refine va_sld hx hb hX hbl hbA hS3 (inB_vp h127) dL_law_855 ?_
                                                          refine lv_aload_n hx hb dL_law_856 rfl (lv_at hl2 2 rfl) ?_
                                                          refine lv_iload_n hx hb dL_law_857 rfl (lv_at hl2 3 rfl) ?_
                                                          refine lv_iconst (v := (2 : Int32)) hx hb dL_law_858 (by decide) ?_
                                                          refine lv_iadd hx hb dL_law_859 ?_
                                                          obtain ⟨h128, hm⟩ := ckd hm
                                                          refine va_sld hx hb hX hbl hbA hS3 (inB_vp h128) dL_law_860 ?_
                                                          obtain ⟨y861, hy861, hm⟩ := bn hm
                                                          refine cVRl (As := [.int (xs ((z18.1 + (1 : Int32))).toNatClampNeg), .int (xs ((z18.1 + (2 : Int32))).toNatClampNeg)]) (rest := []) X hP3 hl2.1 (c_X5_share l D q ad (z18.2.1 0) (z18.2.1 1) (xs ((z18.1 + (1 : Int32))).toNatClampNeg) (xs ((z18.1 + (2 : Int32))).toNatClampNeg) y861 hy861) [0, 1, 2, 3, 4, 5, 6, 7, 8, 9, 10, 11, 12, 13, 14, 15, 16, 17] rfl 0 rfl rfl rfl k_736 mX5_share ⟨rfl, rfl⟩ ⟨Nat.le_of_ble_eq_true rfl, Nat.le_of_ble_eq_true rfl⟩ rfl rfl (Nat.le_of_ble_eq_true rfl) dL_law_861 ⟨Nat.le_of_ble_eq_true rfl, Nat.le_of_ble_eq_true rfl⟩ ?_
                                                          refine lv_aload_n hx hb dL_law_864 rfl (lv_at hl2 0 rfl) ?_
                                                          refine lv_aload_n hx hb dL_law_865 rfl (lv_at hl2 2 rfl) ?_
                                                          refine lv_iload_n hx hb dL_law_866 rfl (lv_at hl2 3 rfl) ?_
                                                          refine lv_iconst (v := (1 : Int32)) hx hb dL_law_867 (by decide) ?_
                                                          refine lv_iadd hx hb dL_law_868 ?_
                                                          obtain ⟨h129, hm⟩ := ckd hm
                                                          refine va_sld hx hb hX hbl hbA hS3 (inB_vp h129) dL_law_869 ?_
                                                          refine lv_aload_n hx hb dL_law_870 rfl (lv_at hl2 2 rfl) ?_
                                                          refine lv_iload_n hx hb dL_law_871 rfl (lv_at hl2 3 rfl) ?_
                                                          refine lv_iconst (v := (2 : Int32)) hx hb dL_law_872 (by decide) ?_
                                                          refine lv_iadd hx hb dL_law_873 ?_
                                                          obtain ⟨h130, hm⟩ := ckd hm
                                                          refine va_sld hx hb hX hbl hbA hS3 (inB_vp h130) dL_law_874 ?_
                                                          obtain ⟨y875, hy875, hm⟩ := bn hm
                                                          refine cVRl (As := [.int (xs ((z18.1 + (1 : Int32))).toNatClampNeg), .int (xs ((z18.1 + (2 : Int32))).toNatClampNeg)]) (rest := [.long y861]) X hP3 hl2.1 (c_X6_share l D q a z18.2.2 (xs ((z18.1 + (1 : Int32))).toNatClampNeg) (xs ((z18.1 + (2 : Int32))).toNatClampNeg) y875 hy875) [86, 87, 88, 89, 90, 91, 92, 93, 94, 95, 96, 97, 98, 99, 100, 101, 102, 103] rfl 86 rfl rfl rfl k_1237 mX6_share ⟨rfl, rfl⟩ ⟨Nat.le_of_ble_eq_true rfl, Nat.le_of_ble_eq_true rfl⟩ rfl rfl (Nat.le_of_ble_eq_true rfl) dL_law_875 ⟨Nat.le_of_ble_eq_true rfl, Nat.le_of_ble_eq_true rfl⟩ ?_
                                                          refine W.lcmp hx hb dL_law_878 ?_
                                                          refine lv_if_eq (tgt := 1367) hx hb dL_law_879 (by decide) (fun c879 => ?_) (fun c879 => ?_)
                                                          · replace hm := tp hm c879
                                                            refine lv_iinc (v := (z18.1 + (5 : Int32))) (lv' := [(3, .int (z18.1 + (5 : Int32))), (2, .ref (a 99)), (1, .ref (ad 0 99)), (0, .ref b)]) hx hb dL_law_1367 hl2 (k := 3) rfl rfl (by decide) rfl (fun ls131 hl131 => ?_)
                                                            clear hl2
                                                            refine lv_goto (tgt := 18) hx hb dL_law_1370 (by decide) ?_
                                                            cases hm
                                                            exact ih18 ((z18.1 + (5 : Int32)), z18.2.1, z18.2.2) ρ18 hz18 hK18 _ _ hP3 hD3 hS3 _ (lv_sub hl131 [1, 2, 3, 0] rfl)
                                                          · replace hm := tn hm c879
                                                            refine lv_iconst (v := (0 : Int32)) hx hb dL_law_882 (by decide) ?_
                                                            cases hm
                                                            cases hz18
                                                            have hm : (some (0 : Int32) : Option Int32) = some (1 : Int32) := hK18
                                                            exact absurd (Option.some.inj hm) (by decide)
                                                        · replace hm := tn hm c32_24
                                                          by_cases c32_25 : ((xs (z18.1).toNatClampNeg) &&& (63 : Int32)) = (25 : Int32)
                                                          · replace hm := tp hm c32_25
                                                            refine lv_tableIn (off := 852) (tgt := 884) hx hb dL_law_32 (by rw [c32_25]; decide) (by rw [c32_25]; decide) (by rw [c32_25]; rfl) (by decide) ?_
                                                            refine lv_aload_n hx hb dL_law_884 rfl (lv_at hl2 1 rfl) ?_
                                                            refine lv_aload_n hx hb dL_law_885 rfl (lv_at hl2 2 rfl) ?_
                                                            refine lv_iload_n hx hb dL_law_886 rfl (lv_at hl2 3 rfl) ?_
                                                            refine lv_iconst (v := (1 : Int32)) hx hb dL_law_887 (by decide) ?_
                                                            refine lv_iadd hx hb dL_law_888 ?_
                                                            obtain ⟨h132, hm⟩ := ckd hm
                                                            refine va_sld hx hb hX hbl hbA hS3 (inB_vp h132) dL_law_889 ?_
                                                            obtain ⟨y890, hy890, hm⟩ := bn hm
                                                            refine cVRi (As := [.int (xs ((z18.1 + (1 : Int32))).toNatClampNeg)]) (rest := []) X hP3 hl2.1 (c_X5_looks l D q ad (z18.2.1 0) (z18.2.1 1) (xs ((z18.1 + (1 : Int32))).toNatClampNeg) y890 hy890) [0, 1, 2, 3, 4, 5, 6, 7, 8, 9, 10, 11, 12, 13, 14, 15, 16, 17] rfl 0 rfl rfl rfl k_745 mX5_looks ⟨rfl, rfl⟩ ⟨Nat.le_of_ble_eq_true rfl, Nat.le_of_ble_eq_true rfl⟩ rfl rfl (Nat.le_of_ble_eq_true rfl) dL_law_890 ⟨Nat.le_of_ble_eq_true rfl, Nat.le_of_ble_eq_true rfl⟩ ?_
                                                            refine lv_aload_n hx hb dL_law_893 rfl (lv_at hl2 0 rfl) ?_
                                                            refine lv_aload_n hx hb dL_law_894 rfl (lv_at hl2 2 rfl) ?_
                                                            refine lv_iload_n hx hb dL_law_895 rfl (lv_at hl2 3 rfl) ?_
                                                            refine lv_iconst (v := (1 : Int32)) hx hb dL_law_896 (by decide) ?_
                                                            refine lv_iadd hx hb dL_law_897 ?_
                                                            obtain ⟨h133, hm⟩ := ckd hm
                                                            refine va_sld hx hb hX hbl hbA hS3 (inB_vp h133) dL_law_898 ?_
                                                            obtain ⟨y899, hy899, hm⟩ := bn hm
                                                            refine cVRi (As := [.int (xs ((z18.1 + (1 : Int32))).toNatClampNeg)]) (rest := [.int y890]) X hP3 hl2.1 (c_X6_looks l D q a z18.2.2 (xs ((z18.1 + (1 : Int32))).toNatClampNeg) y899 hy899) [86, 87, 88, 89, 90, 91, 92, 93, 94, 95, 96, 97, 98, 99, 100, 101, 102, 103] rfl 86 rfl rfl rfl k_1250 mX6_looks ⟨rfl, rfl⟩ ⟨Nat.le_of_ble_eq_true rfl, Nat.le_of_ble_eq_true rfl⟩ rfl rfl (Nat.le_of_ble_eq_true rfl) dL_law_899 ⟨Nat.le_of_ble_eq_true rfl, Nat.le_of_ble_eq_true rfl⟩ ?_
                                                            refine lv_icmp_eq (tgt := 1367) hx hb dL_law_902 (by decide) (fun c902 => ?_) (fun c902 => ?_)
                                                            · replace hm := tp hm c902
                                                              refine lv_iinc (v := (z18.1 + (5 : Int32))) (lv' := [(3, .int (z18.1 + (5 : Int32))), (2, .ref (a 99)), (1, .ref (ad 0 99)), (0, .ref b)]) hx hb dL_law_1367 hl2 (k := 3) rfl rfl (by decide) rfl (fun ls134 hl134 => ?_)
                                                              clear hl2
                                                              refine lv_goto (tgt := 18) hx hb dL_law_1370 (by decide) ?_
                                                              cases hm
                                                              exact ih18 ((z18.1 + (5 : Int32)), z18.2.1, z18.2.2) ρ18 hz18 hK18 _ _ hP3 hD3 hS3 _ (lv_sub hl134 [1, 2, 3, 0] rfl)
                                                            · replace hm := tn hm c902
                                                              refine lv_iconst (v := (0 : Int32)) hx hb dL_law_905 (by decide) ?_
                                                              cases hm
                                                              cases hz18
                                                              have hm : (some (0 : Int32) : Option Int32) = some (1 : Int32) := hK18
                                                              exact absurd (Option.some.inj hm) (by decide)
                                                          · replace hm := tn hm c32_25
                                                            by_cases c32_26 : ((xs (z18.1).toNatClampNeg) &&& (63 : Int32)) = (26 : Int32)
                                                            · replace hm := tp hm c32_26
                                                              refine lv_tableIn (off := 875) (tgt := 907) hx hb dL_law_32 (by rw [c32_26]; decide) (by rw [c32_26]; decide) (by rw [c32_26]; rfl) (by decide) ?_
                                                              refine lv_aload_n hx hb dL_law_907 rfl (lv_at hl2 1 rfl) ?_
                                                              refine lv_aload_n hx hb dL_law_908 rfl (lv_at hl2 2 rfl) ?_
                                                              refine lv_iload_n hx hb dL_law_909 rfl (lv_at hl2 3 rfl) ?_
                                                              refine lv_iconst (v := (1 : Int32)) hx hb dL_law_910 (by decide) ?_
                                                              refine lv_iadd hx hb dL_law_911 ?_
                                                              obtain ⟨h135, hm⟩ := ckd hm
                                                              refine va_sld hx hb hX hbl hbA hS3 (inB_vp h135) dL_law_912 ?_
                                                              refine lv_aload_n hx hb dL_law_913 rfl (lv_at hl2 2 rfl) ?_
                                                              refine lv_iload_n hx hb dL_law_914 rfl (lv_at hl2 3 rfl) ?_
                                                              refine lv_iconst (v := (2 : Int32)) hx hb dL_law_915 (by decide) ?_
                                                              refine lv_iadd hx hb dL_law_916 ?_
                                                              obtain ⟨h136, hm⟩ := ckd hm
                                                              refine va_sld hx hb hX hbl hbA hS3 (inB_vp h136) dL_law_917 ?_
                                                              obtain ⟨y918, hy918, hm⟩ := bn hm
                                                              refine cVRl (As := [.int (xs ((z18.1 + (1 : Int32))).toNatClampNeg), .int (xs ((z18.1 + (2 : Int32))).toNatClampNeg)]) (rest := []) X hP3 hl2.1 (c_X5_alive l D q ad (z18.2.1 0) (z18.2.1 1) (xs ((z18.1 + (1 : Int32))).toNatClampNeg) (xs ((z18.1 + (2 : Int32))).toNatClampNeg) y918 hy918) [0, 1, 2, 3, 4, 5, 6, 7, 8, 9, 10, 11, 12, 13, 14, 15, 16, 17] rfl 0 rfl rfl rfl k_754 mX5_alive ⟨rfl, rfl⟩ ⟨Nat.le_of_ble_eq_true rfl, Nat.le_of_ble_eq_true rfl⟩ rfl rfl (Nat.le_of_ble_eq_true rfl) dL_law_918 ⟨Nat.le_of_ble_eq_true rfl, Nat.le_of_ble_eq_true rfl⟩ ?_
                                                              refine lv_aload_n hx hb dL_law_921 rfl (lv_at hl2 0 rfl) ?_
                                                              refine lv_aload_n hx hb dL_law_922 rfl (lv_at hl2 2 rfl) ?_
                                                              refine lv_iload_n hx hb dL_law_923 rfl (lv_at hl2 3 rfl) ?_
                                                              refine lv_iconst (v := (1 : Int32)) hx hb dL_law_924 (by decide) ?_
                                                              refine lv_iadd hx hb dL_law_925 ?_
                                                              obtain ⟨h137, hm⟩ := ckd hm
                                                              refine va_sld hx hb hX hbl hbA hS3 (inB_vp h137) dL_law_926 ?_
                                                              refine lv_aload_n hx hb dL_law_927 rfl (lv_at hl2 2 rfl) ?_
                                                              refine lv_iload_n hx hb dL_law_928 rfl (lv_at hl2 3 rfl) ?_
                                                              refine lv_iconst (v := (2 : Int32)) hx hb dL_law_929 (by decide) ?_
                                                              refine lv_iadd hx hb dL_law_930 ?_
                                                              obtain ⟨h138, hm⟩ := ckd hm
                                                              refine va_sld hx hb hX hbl hbA hS3 (inB_vp h138) dL_law_931 ?_
                                                              obtain ⟨y932, hy932, hm⟩ := bn hm
                                                              refine cVRl (As := [.int (xs ((z18.1 + (1 : Int32))).toNatClampNeg), .int (xs ((z18.1 + (2 : Int32))).toNatClampNeg)]) (rest := [.long y918]) X hP3 hl2.1 (c_X6_alive l D q a z18.2.2 (xs ((z18.1 + (1 : Int32))).toNatClampNeg) (xs ((z18.1 + (2 : Int32))).toNatClampNeg) y932 hy932) [86, 87, 88, 89, 90, 91, 92, 93, 94, 95, 96, 97, 98, 99, 100, 101, 102, 103] rfl 86 rfl rfl rfl k_1258 mX6_alive ⟨rfl, rfl⟩ ⟨Nat.le_of_ble_eq_true rfl, Nat.le_of_ble_eq_true rfl⟩ rfl rfl (Nat.le_of_ble_eq_true rfl) dL_law_932 ⟨Nat.le_of_ble_eq_true rfl, Nat.le_of_ble_eq_true rfl⟩ ?_
                                                              refine W.lcmp hx hb dL_law_935 ?_
                                                              refine lv_if_eq (tgt := 1367) hx hb dL_law_936 (by decide) (fun c936 => ?_) (fun c936 => ?_)
                                                              · replace hm := tp hm c936
                                                                refine lv_iinc (v := (z18.1 + (5 : Int32))) (lv' := [(3, .int (z18.1 + (5 : Int32))), (2, .ref (a 99)), (1, .ref (ad 0 99)), (0, .ref b)]) hx hb dL_law_1367 hl2 (k := 3) rfl rfl (by decide) rfl (fun ls139 hl139 => ?_)
                                                                clear hl2
                                                                refine lv_goto (tgt := 18) hx hb dL_law_1370 (by decide) ?_
                                                                cases hm
                                                                exact ih18 ((z18.1 + (5 : Int32)), z18.2.1, z18.2.2) ρ18 hz18 hK18 _ _ hP3 hD3 hS3 _ (lv_sub hl139 [1, 2, 3, 0] rfl)
                                                              · replace hm := tn hm c936
                                                                refine lv_iconst (v := (0 : Int32)) hx hb dL_law_939 (by decide) ?_
                                                                cases hm
                                                                cases hz18
                                                                have hm : (some (0 : Int32) : Option Int32) = some (1 : Int32) := hK18
                                                                exact absurd (Option.some.inj hm) (by decide)
                                                            · replace hm := tn hm c32_26
                                                              by_cases c32_27 : ((xs (z18.1).toNatClampNeg) &&& (63 : Int32)) = (27 : Int32)
                                                              · replace hm := tp hm c32_27
                                                                refine lv_tableIn (off := 909) (tgt := 941) hx hb dL_law_32 (by rw [c32_27]; decide) (by rw [c32_27]; decide) (by rw [c32_27]; rfl) (by decide) ?_
                                                                refine lv_aload_n hx hb dL_law_941 rfl (lv_at hl2 1 rfl) ?_
                                                                refine lv_aload_n hx hb dL_law_942 rfl (lv_at hl2 2 rfl) ?_
                                                                refine lv_iload_n hx hb dL_law_943 rfl (lv_at hl2 3 rfl) ?_
                                                                refine lv_iconst (v := (1 : Int32)) hx hb dL_law_944 (by decide) ?_
                                                                refine lv_iadd hx hb dL_law_945 ?_
                                                                obtain ⟨h140, hm⟩ := ckd hm
                                                                refine va_sld hx hb hX hbl hbA hS3 (inB_vp h140) dL_law_946 ?_
                                                                refine lv_aload_n hx hb dL_law_947 rfl (lv_at hl2 2 rfl) ?_
                                                                refine lv_iload_n hx hb dL_law_948 rfl (lv_at hl2 3 rfl) ?_
                                                                refine lv_iconst (v := (2 : Int32)) hx hb dL_law_949 (by decide) ?_
                                                                refine lv_iadd hx hb dL_law_950 ?_
                                                                obtain ⟨h141, hm⟩ := ckd hm
                                                                refine va_sld hx hb hX hbl hbA hS3 (inB_vp h141) dL_law_951 ?_
                                                                obtain ⟨y952, hy952, hm⟩ := bn hm
                                                                refine cVRl (As := [.int (xs ((z18.1 + (1 : Int32))).toNatClampNeg), .int (xs ((z18.1 + (2 : Int32))).toNatClampNeg)]) (rest := []) X hP3 hl2.1 (c_X5_mean l D q ad (z18.2.1 0) (z18.2.1 1) (xs ((z18.1 + (1 : Int32))).toNatClampNeg) (xs ((z18.1 + (2 : Int32))).toNatClampNeg) y952 hy952) [0, 1, 2, 3, 4, 5, 6, 7, 8, 9, 10, 11, 12, 13, 14, 15, 16, 17] rfl 0 rfl rfl rfl k_759 mX5_mean ⟨rfl, rfl⟩ ⟨Nat.le_of_ble_eq_true rfl, Nat.le_of_ble_eq_true rfl⟩ rfl rfl (Nat.le_of_ble_eq_true rfl) dL_law_952 ⟨Nat.le_of_ble_eq_true rfl, Nat.le_of_ble_eq_true rfl⟩ ?_
                                                                refine lv_aload_n hx hb dL_law_955 rfl (lv_at hl2 0 rfl) ?_
                                                                refine lv_aload_n hx hb dL_law_956 rfl (lv_at hl2 2 rfl) ?_
                                                                refine lv_iload_n hx hb dL_law_957 rfl (lv_at hl2 3 rfl) ?_
                                                                refine lv_iconst (v := (1 : Int32)) hx hb dL_law_958 (by decide) ?_
                                                                refine lv_iadd hx hb dL_law_959 ?_
                                                                obtain ⟨h142, hm⟩ := ckd hm
                                                                refine va_sld hx hb hX hbl hbA hS3 (inB_vp h142) dL_law_960 ?_
                                                                refine lv_aload_n hx hb dL_law_961 rfl (lv_at hl2 2 rfl) ?_
                                                                refine lv_iload_n hx hb dL_law_962 rfl (lv_at hl2 3 rfl) ?_
                                                                refine lv_iconst (v := (2 : Int32)) hx hb dL_law_963 (by decide) ?_
                                                                refine lv_iadd hx hb dL_law_964 ?_
                                                                obtain ⟨h143, hm⟩ := ckd hm
                                                                refine va_sld hx hb hX hbl hbA hS3 (inB_vp h143) dL_law_965 ?_
                                                                obtain ⟨y966, hy966, hm⟩ := bn hm
                                                                refine cVRl (As := [.int (xs ((z18.1 + (1 : Int32))).toNatClampNeg), .int (xs ((z18.1 + (2 : Int32))).toNatClampNeg)]) (rest := [.long y952]) X hP3 hl2.1 (c_X6_mean l D q a z18.2.2 (xs ((z18.1 + (1 : Int32))).toNatClampNeg) (xs ((z18.1 + (2 : Int32))).toNatClampNeg) y966 hy966) [86, 87, 88, 89, 90, 91, 92, 93, 94, 95, 96, 97, 98, 99, 100, 101, 102, 103] rfl 86 rfl rfl rfl k_1267 mX6_mean ⟨rfl, rfl⟩ ⟨Nat.le_of_ble_eq_true rfl, Nat.le_of_ble_eq_true rfl⟩ rfl rfl (Nat.le_of_ble_eq_true rfl) dL_law_966 ⟨Nat.le_of_ble_eq_true rfl, Nat.le_of_ble_eq_true rfl⟩ ?_
                                                                refine W.lcmp hx hb dL_law_969 ?_
                                                                refine lv_if_eq (tgt := 1367) hx hb dL_law_970 (by decide) (fun c970 => ?_) (fun c970 => ?_)
                                                                · replace hm := tp hm c970
                                                                  refine lv_iinc (v := (z18.1 + (5 : Int32))) (lv' := [(3, .int (z18.1 + (5 : Int32))), (2, .ref (a 99)), (1, .ref (ad 0 99)), (0, .ref b)]) hx hb dL_law_1367 hl2 (k := 3) rfl rfl (by decide) rfl (fun ls144 hl144 => ?_)
                                                                  clear hl2
                                                                  refine lv_goto (tgt := 18) hx hb dL_law_1370 (by decide) ?_
                                                                  cases hm
                                                                  exact ih18 ((z18.1 + (5 : Int32)), z18.2.1, z18.2.2) ρ18 hz18 hK18 _ _ hP3 hD3 hS3 _ (lv_sub hl144 [1, 2, 3, 0] rfl)
                                                                · replace hm := tn hm c970
                                                                  refine lv_iconst (v := (0 : Int32)) hx hb dL_law_973 (by decide) ?_
                                                                  cases hm
                                                                  cases hz18
                                                                  have hm : (some (0 : Int32) : Option Int32) = some (1 : Int32) := hK18
                                                                  exact absurd (Option.some.inj hm) (by decide)
                                                              · replace hm := tn hm c32_27
                                                                by_cases c32_28 : ((xs (z18.1).toNatClampNeg) &&& (63 : Int32)) = (28 : Int32)
                                                                · replace hm := tp hm c32_28
                                                                  refine lv_tableIn (off := 943) (tgt := 975) hx hb dL_law_32 (by rw [c32_28]; decide) (by rw [c32_28]; decide) (by rw [c32_28]; rfl) (by decide) ?_
                                                                  refine lv_aload_n hx hb dL_law_975 rfl (lv_at hl2 1 rfl) ?_
                                                                  refine lv_aload_n hx hb dL_law_976 rfl (lv_at hl2 2 rfl) ?_
                                                                  refine lv_iload_n hx hb dL_law_977 rfl (lv_at hl2 3 rfl) ?_
                                                                  refine lv_iconst (v := (1 : Int32)) hx hb dL_law_978 (by decide) ?_
                                                                  refine lv_iadd hx hb dL_law_979 ?_
                                                                  obtain ⟨h145, hm⟩ := ckd hm
                                                                  refine va_sld hx hb hX hbl hbA hS3 (inB_vp h145) dL_law_980 ?_
                                                                  refine lv_aload_n hx hb dL_law_981 rfl (lv_at hl2 2 rfl) ?_
                                                                  refine lv_iload_n hx hb dL_law_982 rfl (lv_at hl2 3 rfl) ?_
                                                                  refine lv_iconst (v := (2 : Int32)) hx hb dL_law_983 (by decide) ?_
                                                                  refine lv_iadd hx hb dL_law_984 ?_
                                                                  obtain ⟨h146, hm⟩ := ckd hm
                                                                  refine va_sld hx hb hX hbl hbA hS3 (inB_vp h146) dL_law_985 ?_
                                                                  refine lv_aload_n hx hb dL_law_986 rfl (lv_at hl2 2 rfl) ?_
                                                                  refine lv_iload_n hx hb dL_law_987 rfl (lv_at hl2 3 rfl) ?_
                                                                  refine lv_iconst (v := (3 : Int32)) hx hb dL_law_988 (by decide) ?_
                                                                  refine lv_iadd hx hb dL_law_989 ?_
                                                                  obtain ⟨h147, hm⟩ := ckd hm
                                                                  refine va_sld hx hb hX hbl hbA hS3 (inB_vp h147) dL_law_990 ?_
                                                                  have hJ999 : ∀ z999 : (Nat → SV) × SV × Int32 × Int32 × Int32, m_L_law_J999 L xs z18 z999 = some t18 → ∀ (H : Heap) (locs : List Loc), va_P D cls (wX5 q ad (z999.1 0) ++ (wX3 q (ad 1) (z999.1 1) ++ (wX3 q (ad 2) (z999.1 2) ++ (wX3 q (ad 3) (z999.1 3) ++ (wX3 q (ad 4) (z999.1 4) ++ (wX0 q (ad 5) (z999.1 5) (ad 6 99) ++ (wX3 q (ad 6) (z999.1 6) ++ (wX1 q (ad 7) (z999.1 7) ++ (wX4 q (ad 8) (z999.1 8) (ad 1 99) (ad 7 99) ++ (wX2 q (ad 9) (z999.1 9) ++ (wX2 q (ad 10) (z999.1 10) ++ (wX2 q (ad 11) (z999.1 11) ++ (wX2 q (ad 12) (z999.1 12) ++ wX6 q a z999.2.1))))))))))))) H → va_D (fun z : Nat => s.heap.size ≤ z) (wX5 q ad (z999.1 0) ++ (wX3 q (ad 1) (z999.1 1) ++ (wX3 q (ad 2) (z999.1 2) ++ (wX3 q (ad 3) (z999.1 3) ++ (wX3 q (ad 4) (z999.1 4) ++ (wX0 q (ad 5) (z999.1 5) (ad 6 99) ++ (wX3 q (ad 6) (z999.1 6) ++ (wX1 q (ad 7) (z999.1 7) ++ (wX4 q (ad 8) (z999.1 8) (ad 1 99) (ad 7 99) ++ (wX2 q (ad 9) (z999.1 9) ++ (wX2 q (ad 10) (z999.1 10) ++ (wX2 q (ad 11) (z999.1 11) ++ (wX2 q (ad 12) (z999.1 12) ++ wX6 q a z999.2.1))))))))))))) → va_S (fun z : Nat => s.heap.size ≤ z) s.heap H locs → ∀ ls : Array Slot, lv_has ls 4 [(2, .ref (a 99)), (1, .ref (ad 0 99)), (0, .ref b), (3, .int z18.1)] → W p l e room_1 s m #[Value.ref b] below meth c H locs 104 1852 (lw_Z below #[Value.ref b] s) (F0 m 999 ls [.int z999.2.2.2.2, .int z999.2.2.2.1, .int z999.2.2.1, .ref (ad 0 99)]) := by
                                                                    intro z999 hm H149 locs149 hP149 hD149 hS149 ls148 hl148
                                                                    unfold m_L_law_J999 at hm
                                                                    obtain ⟨y999, hy999, hm⟩ := bn hm
                                                                    refine cVWi (As := [.int z999.2.2.1, .int z999.2.2.2.1, .int z999.2.2.2.2]) (rest := []) (Wn := fun (uu : SV) => wX5 q ad (z999.1 0) ++ (wX3 q (ad 1) (z999.1 1) ++ (wX3 q (ad 2) (z999.1 2) ++ (wX3 q (ad 3) (z999.1 3) ++ (wX3 q (ad 4) (z999.1 4) ++ (wX0 q (ad 5) (z999.1 5) (ad 6 99) ++ (wX3 q (ad 6) (z999.1 6) ++ (wX1 q (ad 7) uu ++ (wX4 q (ad 8) (z999.1 8) (ad 1 99) (ad 7 99) ++ (wX2 q (ad 9) (z999.1 9) ++ (wX2 q (ad 10) (z999.1 10) ++ (wX2 q (ad 11) (z999.1 11) ++ (wX2 q (ad 12) (z999.1 12) ++ wX6 q a z999.2.1))))))))))))) X hP149 hD149 hS149 (fun _ h => h) hl148.1 (c_X5_see l D q H149.size ad (z999.1 0) (z999.1 1) (z999.1 7) z999.2.2.1 z999.2.2.2.1 z999.2.2.2.2 y999 hy999) [0, 1, 2, 3, 4, 5, 6, 7, 8, 9, 10, 11, 12, 13, 14, 15, 16, 17, 68, 69, 70, 71] [18, 19, 20, 21, 22, 23, 24, 25, 26, 27, 28, 29, 30, 31, 32, 33, 34, 35, 36, 37, 38, 39, 40, 41, 42, 43, 44, 45, 46, 47, 48, 49, 50, 51, 52, 53, 54, 55, 56, 57, 58, 59, 60, 61, 62, 63, 64, 65, 66, 67, 72, 73, 74, 75, 76, 77, 78, 79, 80, 81, 82, 83, 84, 85, 86, 87, 88, 89, 90, 91, 92, 93, 94, 95, 96, 97, 98, 99, 100, 101, 102, 103] [82, 83, 84, 85, 86, 87, 88, 89, 90, 91, 92, 93, 94, 95, 96, 97, 98, 99, 0, 1, 2, 3, 4, 5, 6, 7, 8, 9, 10, 11, 12, 13, 14, 15, 16, 17, 18, 19, 20, 21, 22, 23, 24, 25, 26, 27, 28, 29, 30, 31, 32, 33, 34, 35, 36, 37, 38, 39, 40, 41, 42, 43, 44, 45, 46, 47, 48, 49, 100, 101, 102, 103, 50, 51, 52, 53, 54, 55, 56, 57, 58, 59, 60, 61, 62, 63, 64, 65, 66, 67, 68, 69, 70, 71, 72, 73, 74, 75, 76, 77, 78, 79, 80, 81] rfl (Wr := wX3 q (ad 2) (z999.1 2) ++ (wX3 q (ad 3) (z999.1 3) ++ (wX3 q (ad 4) (z999.1 4) ++ (wX0 q (ad 5) (z999.1 5) (ad 6 99) ++ (wX3 q (ad 6) (z999.1 6) ++ (wX4 q (ad 8) (z999.1 8) (ad 1 99) (ad 7 99) ++ (wX2 q (ad 9) (z999.1 9) ++ (wX2 q (ad 10) (z999.1 10) ++ (wX2 q (ad 11) (z999.1 11) ++ (wX2 q (ad 12) (z999.1 12) ++ wX6 q a z999.2.1)))))))))) rfl (by decide) (by decide) (by decide) (by decide) (fun _ => rfl) 0 rfl rfl rfl k_764 mX5_see ⟨rfl, rfl⟩ ⟨Nat.le_of_ble_eq_true rfl, Nat.le_of_ble_eq_true rfl⟩ rfl rfl (Nat.le_of_ble_eq_true rfl) dL_law_999 ⟨Nat.le_of_ble_eq_true rfl, Nat.le_of_ble_eq_true rfl⟩ (fun H150 locs150 hP hD hS150 => ?_)
                                                                    have hP150 : va_P D cls (wX5 q ad (z999.1 0) ++ (wX3 q (ad 1) (z999.1 1) ++ (wX3 q (ad 2) (z999.1 2) ++ (wX3 q (ad 3) (z999.1 3) ++ (wX3 q (ad 4) (z999.1 4) ++ (wX0 q (ad 5) (z999.1 5) (ad 6 99) ++ (wX3 q (ad 6) (z999.1 6) ++ (wX1 q (ad 7) y999.2 ++ (wX4 q (ad 8) (z999.1 8) (ad 1 99) (ad 7 99) ++ (wX2 q (ad 9) (z999.1 9) ++ (wX2 q (ad 10) (z999.1 10) ++ (wX2 q (ad 11) (z999.1 11) ++ (wX2 q (ad 12) (z999.1 12) ++ wX6 q a z999.2.1))))))))))))) H150 := hP
                                                                    have hD150 : va_D (fun z : Nat => s.heap.size ≤ z) (wX5 q ad (z999.1 0) ++ (wX3 q (ad 1) (z999.1 1) ++ (wX3 q (ad 2) (z999.1 2) ++ (wX3 q (ad 3) (z999.1 3) ++ (wX3 q (ad 4) (z999.1 4) ++ (wX0 q (ad 5) (z999.1 5) (ad 6 99) ++ (wX3 q (ad 6) (z999.1 6) ++ (wX1 q (ad 7) y999.2 ++ (wX4 q (ad 8) (z999.1 8) (ad 1 99) (ad 7 99) ++ (wX2 q (ad 9) (z999.1 9) ++ (wX2 q (ad 10) (z999.1 10) ++ (wX2 q (ad 11) (z999.1 11) ++ (wX2 q (ad 12) (z999.1 12) ++ wX6 q a z999.2.1))))))))))))) := hD
                                                                    clear hP hD hP149 hD149 hS149
                                                                    refine lv_aload_n hx hb dL_law_1002 rfl (lv_at hl148 0 rfl) ?_
                                                                    refine lv_aload_n hx hb dL_law_1003 rfl (lv_at hl148 2 rfl) ?_
                                                                    refine lv_iload_n hx hb dL_law_1004 rfl (lv_at hl148 3 rfl) ?_
                                                                    refine lv_iconst (v := (1 : Int32)) hx hb dL_law_1005 (by decide) ?_
                                                                    refine lv_iadd hx hb dL_law_1006 ?_
                                                                    obtain ⟨h151, hm⟩ := ckd hm
                                                                    refine va_sld hx hb hX hbl hbA hS150 (inB_vp h151) dL_law_1007 ?_
                                                                    refine lv_aload_n hx hb dL_law_1008 rfl (lv_at hl148 2 rfl) ?_
                                                                    refine lv_iload_n hx hb dL_law_1009 rfl (lv_at hl148 3 rfl) ?_
                                                                    refine lv_iconst (v := (2 : Int32)) hx hb dL_law_1010 (by decide) ?_
                                                                    refine lv_iadd hx hb dL_law_1011 ?_
                                                                    obtain ⟨h152, hm⟩ := ckd hm
                                                                    refine va_sld hx hb hX hbl hbA hS150 (inB_vp h152) dL_law_1012 ?_
                                                                    refine lv_aload_n hx hb dL_law_1013 rfl (lv_at hl148 2 rfl) ?_
                                                                    refine lv_iload_n hx hb dL_law_1014 rfl (lv_at hl148 3 rfl) ?_
                                                                    refine lv_iconst (v := (3 : Int32)) hx hb dL_law_1015 (by decide) ?_
                                                                    refine lv_iadd hx hb dL_law_1016 ?_
                                                                    obtain ⟨h153, hm⟩ := ckd hm
                                                                    refine va_sld hx hb hX hbl hbA hS150 (inB_vp h153) dL_law_1017 ?_
                                                                    have hJ1026 : ∀ z1026 : (Nat → SV) × SV × Int32 × Int32 × Int32 × Int32, m_L_law_J1026 z18 z1026 = some t18 → ∀ (H : Heap) (locs : List Loc), va_P D cls (wX5 q ad (z1026.1 0) ++ (wX3 q (ad 1) (z1026.1 1) ++ (wX3 q (ad 2) (z1026.1 2) ++ (wX3 q (ad 3) (z1026.1 3) ++ (wX3 q (ad 4) (z1026.1 4) ++ (wX0 q (ad 5) (z1026.1 5) (ad 6 99) ++ (wX3 q (ad 6) (z1026.1 6) ++ (wX1 q (ad 7) (z1026.1 7) ++ (wX4 q (ad 8) (z1026.1 8) (ad 1 99) (ad 7 99) ++ (wX2 q (ad 9) (z1026.1 9) ++ (wX2 q (ad 10) (z1026.1 10) ++ (wX2 q (ad 11) (z1026.1 11) ++ (wX2 q (ad 12) (z1026.1 12) ++ wX6 q a z1026.2.1))))))))))))) H → va_D (fun z : Nat => s.heap.size ≤ z) (wX5 q ad (z1026.1 0) ++ (wX3 q (ad 1) (z1026.1 1) ++ (wX3 q (ad 2) (z1026.1 2) ++ (wX3 q (ad 3) (z1026.1 3) ++ (wX3 q (ad 4) (z1026.1 4) ++ (wX0 q (ad 5) (z1026.1 5) (ad 6 99) ++ (wX3 q (ad 6) (z1026.1 6) ++ (wX1 q (ad 7) (z1026.1 7) ++ (wX4 q (ad 8) (z1026.1 8) (ad 1 99) (ad 7 99) ++ (wX2 q (ad 9) (z1026.1 9) ++ (wX2 q (ad 10) (z1026.1 10) ++ (wX2 q (ad 11) (z1026.1 11) ++ (wX2 q (ad 12) (z1026.1 12) ++ wX6 q a z1026.2.1))))))))))))) → va_S (fun z : Nat => s.heap.size ≤ z) s.heap H locs → ∀ ls : Array Slot, lv_has ls 4 [(2, .ref (a 99)), (1, .ref (ad 0 99)), (0, .ref b), (3, .int z18.1)] → W p l e room_1 s m #[Value.ref b] below meth c H locs 104 1852 (lw_Z below #[Value.ref b] s) (F0 m 1026 ls [.int z1026.2.2.2.2.2, .int z1026.2.2.2.2.1, .int z1026.2.2.2.1, .ref (a 99), .int z1026.2.2.1]) := by
                                                                      intro z1026 hm H155 locs155 hP155 hD155 hS155 ls154 hl154
                                                                      unfold m_L_law_J1026 at hm
                                                                      obtain ⟨y1026, hy1026, hm⟩ := bn hm
                                                                      refine cVWi (As := [.int z1026.2.2.2.1, .int z1026.2.2.2.2.1, .int z1026.2.2.2.2.2]) (rest := [.int z1026.2.2.1]) (Wn := fun (uu : SV) => wX5 q ad (z1026.1 0) ++ (wX3 q (ad 1) (z1026.1 1) ++ (wX3 q (ad 2) (z1026.1 2) ++ (wX3 q (ad 3) (z1026.1 3) ++ (wX3 q (ad 4) (z1026.1 4) ++ (wX0 q (ad 5) (z1026.1 5) (ad 6 99) ++ (wX3 q (ad 6) (z1026.1 6) ++ (wX1 q (ad 7) (z1026.1 7) ++ (wX4 q (ad 8) (z1026.1 8) (ad 1 99) (ad 7 99) ++ (wX2 q (ad 9) (z1026.1 9) ++ (wX2 q (ad 10) (z1026.1 10) ++ (wX2 q (ad 11) (z1026.1 11) ++ (wX2 q (ad 12) (z1026.1 12) ++ wX6 q a uu))))))))))))) X hP155 hD155 hS155 (fun _ h => h) hl154.1 (c_X6_see l D q H155.size a z1026.2.1 z1026.2.2.2.1 z1026.2.2.2.2.1 z1026.2.2.2.2.2 y1026 hy1026) [86, 87, 88, 89, 90, 91, 92, 93, 94, 95, 96, 97, 98, 99, 100, 101, 102, 103] [0, 1, 2, 3, 4, 5, 6, 7, 8, 9, 10, 11, 12, 13, 14, 15, 16, 17, 18, 19, 20, 21, 22, 23, 24, 25, 26, 27, 28, 29, 30, 31, 32, 33, 34, 35, 36, 37, 38, 39, 40, 41, 42, 43, 44, 45, 46, 47, 48, 49, 50, 51, 52, 53, 54, 55, 56, 57, 58, 59, 60, 61, 62, 63, 64, 65, 66, 67, 68, 69, 70, 71, 72, 73, 74, 75, 76, 77, 78, 79, 80, 81, 82, 83, 84, 85] [0, 1, 2, 3, 4, 5, 6, 7, 8, 9, 10, 11, 12, 13, 14, 15, 16, 17, 18, 19, 20, 21, 22, 23, 24, 25, 26, 27, 28, 29, 30, 31, 32, 33, 34, 35, 36, 37, 38, 39, 40, 41, 42, 43, 44, 45, 46, 47, 48, 49, 50, 51, 52, 53, 54, 55, 56, 57, 58, 59, 60, 61, 62, 63, 64, 65, 66, 67, 68, 69, 70, 71, 72, 73, 74, 75, 76, 77, 78, 79, 80, 81, 82, 83, 84, 85, 86, 87, 88, 89, 90, 91, 92, 93, 94, 95, 96, 97, 98, 99, 100, 101, 102, 103] rfl (Wr := wX5 q ad (z1026.1 0) ++ (wX3 q (ad 1) (z1026.1 1) ++ (wX3 q (ad 2) (z1026.1 2) ++ (wX3 q (ad 3) (z1026.1 3) ++ (wX3 q (ad 4) (z1026.1 4) ++ (wX0 q (ad 5) (z1026.1 5) (ad 6 99) ++ (wX3 q (ad 6) (z1026.1 6) ++ (wX1 q (ad 7) (z1026.1 7) ++ (wX4 q (ad 8) (z1026.1 8) (ad 1 99) (ad 7 99) ++ (wX2 q (ad 9) (z1026.1 9) ++ (wX2 q (ad 10) (z1026.1 10) ++ (wX2 q (ad 11) (z1026.1 11) ++ wX2 q (ad 12) (z1026.1 12))))))))))))) rfl (by decide) (by decide) (by decide) (by decide) (fun _ => rfl) 86 rfl rfl rfl k_1271 mX6_see ⟨rfl, rfl⟩ ⟨Nat.le_of_ble_eq_true rfl, Nat.le_of_ble_eq_true rfl⟩ rfl rfl (Nat.le_of_ble_eq_true rfl) dL_law_1026 ⟨Nat.le_of_ble_eq_true rfl, Nat.le_of_ble_eq_true rfl⟩ (fun H156 locs156 hP hD hS156 => ?_)
                                                                      have hP156 : va_P D cls (wX5 q ad (z1026.1 0) ++ (wX3 q (ad 1) (z1026.1 1) ++ (wX3 q (ad 2) (z1026.1 2) ++ (wX3 q (ad 3) (z1026.1 3) ++ (wX3 q (ad 4) (z1026.1 4) ++ (wX0 q (ad 5) (z1026.1 5) (ad 6 99) ++ (wX3 q (ad 6) (z1026.1 6) ++ (wX1 q (ad 7) (z1026.1 7) ++ (wX4 q (ad 8) (z1026.1 8) (ad 1 99) (ad 7 99) ++ (wX2 q (ad 9) (z1026.1 9) ++ (wX2 q (ad 10) (z1026.1 10) ++ (wX2 q (ad 11) (z1026.1 11) ++ (wX2 q (ad 12) (z1026.1 12) ++ wX6 q a y1026.2))))))))))))) H156 := hP
                                                                      have hD156 : va_D (fun z : Nat => s.heap.size ≤ z) (wX5 q ad (z1026.1 0) ++ (wX3 q (ad 1) (z1026.1 1) ++ (wX3 q (ad 2) (z1026.1 2) ++ (wX3 q (ad 3) (z1026.1 3) ++ (wX3 q (ad 4) (z1026.1 4) ++ (wX0 q (ad 5) (z1026.1 5) (ad 6 99) ++ (wX3 q (ad 6) (z1026.1 6) ++ (wX1 q (ad 7) (z1026.1 7) ++ (wX4 q (ad 8) (z1026.1 8) (ad 1 99) (ad 7 99) ++ (wX2 q (ad 9) (z1026.1 9) ++ (wX2 q (ad 10) (z1026.1 10) ++ (wX2 q (ad 11) (z1026.1 11) ++ (wX2 q (ad 12) (z1026.1 12) ++ wX6 q a y1026.2))))))))))))) := hD
                                                                      clear hP hD hP155 hD155 hS155
                                                                      refine lv_icmp_eq (tgt := 1367) hx hb dL_law_1029 (by decide) (fun c1029 => ?_) (fun c1029 => ?_)
                                                                      · replace hm := tp hm c1029
                                                                        refine lv_iinc (v := (z18.1 + (5 : Int32))) (lv' := [(3, .int (z18.1 + (5 : Int32))), (2, .ref (a 99)), (1, .ref (ad 0 99)), (0, .ref b)]) hx hb dL_law_1367 hl154 (k := 3) rfl rfl (by decide) rfl (fun ls157 hl157 => ?_)
                                                                        clear hl154
                                                                        refine lv_goto (tgt := 18) hx hb dL_law_1370 (by decide) ?_
                                                                        cases hm
                                                                        exact ih18 ((z18.1 + (5 : Int32)), z1026.1, y1026.2) ρ18 hz18 hK18 _ _ hP156 hD156 hS156 _ (lv_sub hl157 [1, 2, 3, 0] rfl)
                                                                      · replace hm := tn hm c1029
                                                                        refine lv_iconst (v := (0 : Int32)) hx hb dL_law_1032 (by decide) ?_
                                                                        cases hm
                                                                        cases hz18
                                                                        have hm : (some (0 : Int32) : Option Int32) = some (1 : Int32) := hK18
                                                                        exact absurd (Option.some.inj hm) (by decide)
                                                                    refine lv_if_eq (tgt := 1025) hx hb dL_law_1018 (by decide) (fun c1018 => ?_) (fun c1018 => ?_)
                                                                    · replace hm := tp hm c1018
                                                                      refine lv_iconst (v := (0 : Int32)) hx hb dL_law_1025 (by decide) ?_
                                                                      exact hJ1026 ((mkG (z999.1 0) (z999.1 1) (z999.1 2) (z999.1 3) (z999.1 4) (z999.1 5) (z999.1 6) y999.2 (z999.1 8) (z999.1 9) (z999.1 10) (z999.1 11) (z999.1 12)), z999.2.1, y999.1, (xs ((z18.1 + (1 : Int32))).toNatClampNeg), (xs ((z18.1 + (2 : Int32))).toNatClampNeg), (0 : Int32)) hm _ _ hP150 hD150 hS150 _ (lv_sub hl148 [0, 1, 2, 3] rfl)
                                                                    · replace hm := tn hm c1018
                                                                      refine lv_iconst (v := (1 : Int32)) hx hb dL_law_1021 (by decide) ?_
                                                                      refine lv_goto (tgt := 1026) hx hb dL_law_1022 (by decide) ?_
                                                                      exact hJ1026 ((mkG (z999.1 0) (z999.1 1) (z999.1 2) (z999.1 3) (z999.1 4) (z999.1 5) (z999.1 6) y999.2 (z999.1 8) (z999.1 9) (z999.1 10) (z999.1 11) (z999.1 12)), z999.2.1, y999.1, (xs ((z18.1 + (1 : Int32))).toNatClampNeg), (xs ((z18.1 + (2 : Int32))).toNatClampNeg), (1 : Int32)) hm _ _ hP150 hD150 hS150 _ (lv_sub hl148 [0, 1, 2, 3] rfl)
                                                                  refine lv_if_eq (tgt := 998) hx hb dL_law_991 (by decide) (fun c991 => ?_) (fun c991 => ?_)
                                                                  · replace hm := tp hm c991
                                                                    refine lv_iconst (v := (0 : Int32)) hx hb dL_law_998 (by decide) ?_
                                                                    exact hJ999 (z18.2.1, z18.2.2, (xs ((z18.1 + (1 : Int32))).toNatClampNeg), (xs ((z18.1 + (2 : Int32))).toNatClampNeg), (0 : Int32)) hm _ _ hP3 hD3 hS3 _ (lv_sub hl2 [0, 1, 2, 3] rfl)
                                                                  · replace hm := tn hm c991
                                                                    refine lv_iconst (v := (1 : Int32)) hx hb dL_law_994 (by decide) ?_
                                                                    refine lv_goto (tgt := 999) hx hb dL_law_995 (by decide) ?_
                                                                    exact hJ999 (z18.2.1, z18.2.2, (xs ((z18.1 + (1 : Int32))).toNatClampNeg), (xs ((z18.1 + (2 : Int32))).toNatClampNeg), (1 : Int32)) hm _ _ hP3 hD3 hS3 _ (lv_sub hl2 [0, 1, 2, 3] rfl)
                                                                · replace hm := tn hm c32_28
                                                                  by_cases c32_29 : ((xs (z18.1).toNatClampNeg) &&& (63 : Int32)) = (29 : Int32)
                                                                  · replace hm := tp hm c32_29
                                                                    refine lv_tableIn (off := 1002) (tgt := 1034) hx hb dL_law_32 (by rw [c32_29]; decide) (by rw [c32_29]; decide) (by rw [c32_29]; rfl) (by decide) ?_
                                                                    refine lv_aload_n hx hb dL_law_1034 rfl (lv_at hl2 1 rfl) ?_
                                                                    refine lv_aload_n hx hb dL_law_1035 rfl (lv_at hl2 2 rfl) ?_
                                                                    refine lv_iload_n hx hb dL_law_1036 rfl (lv_at hl2 3 rfl) ?_
                                                                    refine lv_iconst (v := (1 : Int32)) hx hb dL_law_1037 (by decide) ?_
                                                                    refine lv_iadd hx hb dL_law_1038 ?_
                                                                    obtain ⟨h158, hm⟩ := ckd hm
                                                                    refine va_sld hx hb hX hbl hbA hS3 (inB_vp h158) dL_law_1039 ?_
                                                                    obtain ⟨y1040, hy1040, hm⟩ := bn hm
                                                                    refine cVWi (As := [.int (xs ((z18.1 + (1 : Int32))).toNatClampNeg)]) (rest := []) (Wn := fun (uu : SV) => wX5 q ad (z18.2.1 0) ++ (wX3 q (ad 1) (z18.2.1 1) ++ (wX3 q (ad 2) (z18.2.1 2) ++ (wX3 q (ad 3) (z18.2.1 3) ++ (wX3 q (ad 4) (z18.2.1 4) ++ (wX0 q (ad 5) (z18.2.1 5) (ad 6 99) ++ (wX3 q (ad 6) (z18.2.1 6) ++ (wX1 q (ad 7) uu ++ (wX4 q (ad 8) (z18.2.1 8) (ad 1 99) (ad 7 99) ++ (wX2 q (ad 9) (z18.2.1 9) ++ (wX2 q (ad 10) (z18.2.1 10) ++ (wX2 q (ad 11) (z18.2.1 11) ++ (wX2 q (ad 12) (z18.2.1 12) ++ wX6 q a z18.2.2))))))))))))) X hP3 hD3 hS3 (fun _ h => h) hl2.1 (c_X5_forget l D q H3.size ad (z18.2.1 0) (z18.2.1 7) (xs ((z18.1 + (1 : Int32))).toNatClampNeg) y1040 hy1040) [0, 1, 2, 3, 4, 5, 68, 69, 70, 71] [6, 7, 8, 9, 10, 11, 12, 13, 14, 15, 16, 17, 18, 19, 20, 21, 22, 23, 24, 25, 26, 27, 28, 29, 30, 31, 32, 33, 34, 35, 36, 37, 38, 39, 40, 41, 42, 43, 44, 45, 46, 47, 48, 49, 50, 51, 52, 53, 54, 55, 56, 57, 58, 59, 60, 61, 62, 63, 64, 65, 66, 67, 72, 73, 74, 75, 76, 77, 78, 79, 80, 81, 82, 83, 84, 85, 86, 87, 88, 89, 90, 91, 92, 93, 94, 95, 96, 97, 98, 99, 100, 101, 102, 103] [94, 95, 96, 97, 98, 99, 0, 1, 2, 3, 4, 5, 6, 7, 8, 9, 10, 11, 12, 13, 14, 15, 16, 17, 18, 19, 20, 21, 22, 23, 24, 25, 26, 27, 28, 29, 30, 31, 32, 33, 34, 35, 36, 37, 38, 39, 40, 41, 42, 43, 44, 45, 46, 47, 48, 49, 50, 51, 52, 53, 54, 55, 56, 57, 58, 59, 60, 61, 100, 101, 102, 103, 62, 63, 64, 65, 66, 67, 68, 69, 70, 71, 72, 73, 74, 75, 76, 77, 78, 79, 80, 81, 82, 83, 84, 85, 86, 87, 88, 89, 90, 91, 92, 93] rfl (Wr := wX3 q (ad 1) (z18.2.1 1) ++ (wX3 q (ad 2) (z18.2.1 2) ++ (wX3 q (ad 3) (z18.2.1 3) ++ (wX3 q (ad 4) (z18.2.1 4) ++ (wX0 q (ad 5) (z18.2.1 5) (ad 6 99) ++ (wX3 q (ad 6) (z18.2.1 6) ++ (wX4 q (ad 8) (z18.2.1 8) (ad 1 99) (ad 7 99) ++ (wX2 q (ad 9) (z18.2.1 9) ++ (wX2 q (ad 10) (z18.2.1 10) ++ (wX2 q (ad 11) (z18.2.1 11) ++ (wX2 q (ad 12) (z18.2.1 12) ++ wX6 q a z18.2.2))))))))))) rfl (by decide) (by decide) (by decide) (by decide) (fun _ => rfl) 0 rfl rfl rfl k_772 mX5_forget ⟨rfl, rfl⟩ ⟨Nat.le_of_ble_eq_true rfl, Nat.le_of_ble_eq_true rfl⟩ rfl rfl (Nat.le_of_ble_eq_true rfl) dL_law_1040 ⟨Nat.le_of_ble_eq_true rfl, Nat.le_of_ble_eq_true rfl⟩ (fun H159 locs159 hP hD hS159 => ?_)
                                                                    have hP159 : va_P D cls (wX5 q ad (z18.2.1 0) ++ (wX3 q (ad 1) (z18.2.1 1) ++ (wX3 q (ad 2) (z18.2.1 2) ++ (wX3 q (ad 3) (z18.2.1 3) ++ (wX3 q (ad 4) (z18.2.1 4) ++ (wX0 q (ad 5) (z18.2.1 5) (ad 6 99) ++ (wX3 q (ad 6) (z18.2.1 6) ++ (wX1 q (ad 7) y1040.2 ++ (wX4 q (ad 8) (z18.2.1 8) (ad 1 99) (ad 7 99) ++ (wX2 q (ad 9) (z18.2.1 9) ++ (wX2 q (ad 10) (z18.2.1 10) ++ (wX2 q (ad 11) (z18.2.1 11) ++ (wX2 q (ad 12) (z18.2.1 12) ++ wX6 q a z18.2.2))))))))))))) H159 := hP
                                                                    have hD159 : va_D (fun z : Nat => s.heap.size ≤ z) (wX5 q ad (z18.2.1 0) ++ (wX3 q (ad 1) (z18.2.1 1) ++ (wX3 q (ad 2) (z18.2.1 2) ++ (wX3 q (ad 3) (z18.2.1 3) ++ (wX3 q (ad 4) (z18.2.1 4) ++ (wX0 q (ad 5) (z18.2.1 5) (ad 6 99) ++ (wX3 q (ad 6) (z18.2.1 6) ++ (wX1 q (ad 7) y1040.2 ++ (wX4 q (ad 8) (z18.2.1 8) (ad 1 99) (ad 7 99) ++ (wX2 q (ad 9) (z18.2.1 9) ++ (wX2 q (ad 10) (z18.2.1 10) ++ (wX2 q (ad 11) (z18.2.1 11) ++ (wX2 q (ad 12) (z18.2.1 12) ++ wX6 q a z18.2.2))))))))))))) := hD
                                                                    clear hP hD hP3 hD3 hS3
                                                                    refine lv_aload_n hx hb dL_law_1043 rfl (lv_at hl2 0 rfl) ?_
                                                                    refine lv_aload_n hx hb dL_law_1044 rfl (lv_at hl2 2 rfl) ?_
                                                                    refine lv_iload_n hx hb dL_law_1045 rfl (lv_at hl2 3 rfl) ?_
                                                                    refine lv_iconst (v := (1 : Int32)) hx hb dL_law_1046 (by decide) ?_
                                                                    refine lv_iadd hx hb dL_law_1047 ?_
                                                                    obtain ⟨h160, hm⟩ := ckd hm
                                                                    refine va_sld hx hb hX hbl hbA hS159 (inB_vp h160) dL_law_1048 ?_
                                                                    obtain ⟨y1049, hy1049, hm⟩ := bn hm
                                                                    refine cVWi (As := [.int (xs ((z18.1 + (1 : Int32))).toNatClampNeg)]) (rest := [.int y1040.1]) (Wn := fun (uu : SV) => wX5 q ad (z18.2.1 0) ++ (wX3 q (ad 1) (z18.2.1 1) ++ (wX3 q (ad 2) (z18.2.1 2) ++ (wX3 q (ad 3) (z18.2.1 3) ++ (wX3 q (ad 4) (z18.2.1 4) ++ (wX0 q (ad 5) (z18.2.1 5) (ad 6 99) ++ (wX3 q (ad 6) (z18.2.1 6) ++ (wX1 q (ad 7) y1040.2 ++ (wX4 q (ad 8) (z18.2.1 8) (ad 1 99) (ad 7 99) ++ (wX2 q (ad 9) (z18.2.1 9) ++ (wX2 q (ad 10) (z18.2.1 10) ++ (wX2 q (ad 11) (z18.2.1 11) ++ (wX2 q (ad 12) (z18.2.1 12) ++ wX6 q a uu))))))))))))) X hP159 hD159 hS159 (fun _ h => h) hl2.1 (c_X6_forget l D q H159.size a z18.2.2 (xs ((z18.1 + (1 : Int32))).toNatClampNeg) y1049 hy1049) [86, 87, 88, 89, 90, 91, 92, 93, 94, 95, 96, 97, 98, 99, 100, 101, 102, 103] [0, 1, 2, 3, 4, 5, 6, 7, 8, 9, 10, 11, 12, 13, 14, 15, 16, 17, 18, 19, 20, 21, 22, 23, 24, 25, 26, 27, 28, 29, 30, 31, 32, 33, 34, 35, 36, 37, 38, 39, 40, 41, 42, 43, 44, 45, 46, 47, 48, 49, 50, 51, 52, 53, 54, 55, 56, 57, 58, 59, 60, 61, 62, 63, 64, 65, 66, 67, 68, 69, 70, 71, 72, 73, 74, 75, 76, 77, 78, 79, 80, 81, 82, 83, 84, 85] [0, 1, 2, 3, 4, 5, 6, 7, 8, 9, 10, 11, 12, 13, 14, 15, 16, 17, 18, 19, 20, 21, 22, 23, 24, 25, 26, 27, 28, 29, 30, 31, 32, 33, 34, 35, 36, 37, 38, 39, 40, 41, 42, 43, 44, 45, 46, 47, 48, 49, 50, 51, 52, 53, 54, 55, 56, 57, 58, 59, 60, 61, 62, 63, 64, 65, 66, 67, 68, 69, 70, 71, 72, 73, 74, 75, 76, 77, 78, 79, 80, 81, 82, 83, 84, 85, 86, 87, 88, 89, 90, 91, 92, 93, 94, 95, 96, 97, 98, 99, 100, 101, 102, 103] rfl (Wr := wX5 q ad (z18.2.1 0) ++ (wX3 q (ad 1) (z18.2.1 1) ++ (wX3 q (ad 2) (z18.2.1 2) ++ (wX3 q (ad 3) (z18.2.1 3) ++ (wX3 q (ad 4) (z18.2.1 4) ++ (wX0 q (ad 5) (z18.2.1 5) (ad 6 99) ++ (wX3 q (ad 6) (z18.2.1 6) ++ (wX1 q (ad 7) y1040.2 ++ (wX4 q (ad 8) (z18.2.1 8) (ad 1 99) (ad 7 99) ++ (wX2 q (ad 9) (z18.2.1 9) ++ (wX2 q (ad 10) (z18.2.1 10) ++ (wX2 q (ad 11) (z18.2.1 11) ++ wX2 q (ad 12) (z18.2.1 12))))))))))))) rfl (by decide) (by decide) (by decide) (by decide) (fun _ => rfl) 86 rfl rfl rfl k_1275 mX6_forget ⟨rfl, rfl⟩ ⟨Nat.le_of_ble_eq_true rfl, Nat.le_of_ble_eq_true rfl⟩ rfl rfl (Nat.le_of_ble_eq_true rfl) dL_law_1049 ⟨Nat.le_of_ble_eq_true rfl, Nat.le_of_ble_eq_true rfl⟩ (fun H161 locs161 hP hD hS161 => ?_)
                                                                    have hP161 : va_P D cls (wX5 q ad (z18.2.1 0) ++ (wX3 q (ad 1) (z18.2.1 1) ++ (wX3 q (ad 2) (z18.2.1 2) ++ (wX3 q (ad 3) (z18.2.1 3) ++ (wX3 q (ad 4) (z18.2.1 4) ++ (wX0 q (ad 5) (z18.2.1 5) (ad 6 99) ++ (wX3 q (ad 6) (z18.2.1 6) ++ (wX1 q (ad 7) y1040.2 ++ (wX4 q (ad 8) (z18.2.1 8) (ad 1 99) (ad 7 99) ++ (wX2 q (ad 9) (z18.2.1 9) ++ (wX2 q (ad 10) (z18.2.1 10) ++ (wX2 q (ad 11) (z18.2.1 11) ++ (wX2 q (ad 12) (z18.2.1 12) ++ wX6 q a y1049.2))))))))))))) H161 := hP
                                                                    have hD161 : va_D (fun z : Nat => s.heap.size ≤ z) (wX5 q ad (z18.2.1 0) ++ (wX3 q (ad 1) (z18.2.1 1) ++ (wX3 q (ad 2) (z18.2.1 2) ++ (wX3 q (ad 3) (z18.2.1 3) ++ (wX3 q (ad 4) (z18.2.1 4) ++ (wX0 q (ad 5) (z18.2.1 5) (ad 6 99) ++ (wX3 q (ad 6) (z18.2.1 6) ++ (wX1 q (ad 7) y1040.2 ++ (wX4 q (ad 8) (z18.2.1 8) (ad 1 99) (ad 7 99) ++ (wX2 q (ad 9) (z18.2.1 9) ++ (wX2 q (ad 10) (z18.2.1 10) ++ (wX2 q (ad 11) (z18.2.1 11) ++ (wX2 q (ad 12) (z18.2.1 12) ++ wX6 q a y1049.2))))))))))))) := hD
                                                                    clear hP hD hP159 hD159 hS159
                                                                    refine lv_icmp_eq (tgt := 1367) hx hb dL_law_1052 (by decide) (fun c1052 => ?_) (fun c1052 => ?_)
                                                                    · replace hm := tp hm c1052
                                                                      refine lv_iinc (v := (z18.1 + (5 : Int32))) (lv' := [(3, .int (z18.1 + (5 : Int32))), (2, .ref (a 99)), (1, .ref (ad 0 99)), (0, .ref b)]) hx hb dL_law_1367 hl2 (k := 3) rfl rfl (by decide) rfl (fun ls162 hl162 => ?_)
                                                                      clear hl2
                                                                      refine lv_goto (tgt := 18) hx hb dL_law_1370 (by decide) ?_
                                                                      cases hm
                                                                      exact ih18 ((z18.1 + (5 : Int32)), (mkG (z18.2.1 0) (z18.2.1 1) (z18.2.1 2) (z18.2.1 3) (z18.2.1 4) (z18.2.1 5) (z18.2.1 6) y1040.2 (z18.2.1 8) (z18.2.1 9) (z18.2.1 10) (z18.2.1 11) (z18.2.1 12)), y1049.2) ρ18 hz18 hK18 _ _ hP161 hD161 hS161 _ (lv_sub hl162 [1, 2, 3, 0] rfl)
                                                                    · replace hm := tn hm c1052
                                                                      refine lv_iconst (v := (0 : Int32)) hx hb dL_law_1055 (by decide) ?_
                                                                      cases hm
                                                                      cases hz18
                                                                      have hm : (some (0 : Int32) : Option Int32) = some (1 : Int32) := hK18
                                                                      exact absurd (Option.some.inj hm) (by decide)
                                                                  · replace hm := tn hm c32_29
                                                                    by_cases c32_30 : ((xs (z18.1).toNatClampNeg) &&& (63 : Int32)) = (30 : Int32)
                                                                    · replace hm := tp hm c32_30
                                                                      refine lv_tableIn (off := 1025) (tgt := 1057) hx hb dL_law_32 (by rw [c32_30]; decide) (by rw [c32_30]; decide) (by rw [c32_30]; rfl) (by decide) ?_
                                                                      refine lv_aload_n hx hb dL_law_1057 rfl (lv_at hl2 1 rfl) ?_
                                                                      refine lv_aload_n hx hb dL_law_1058 rfl (lv_at hl2 2 rfl) ?_
                                                                      refine lv_iload_n hx hb dL_law_1059 rfl (lv_at hl2 3 rfl) ?_
                                                                      refine lv_iconst (v := (1 : Int32)) hx hb dL_law_1060 (by decide) ?_
                                                                      refine lv_iadd hx hb dL_law_1061 ?_
                                                                      obtain ⟨h163, hm⟩ := ckd hm
                                                                      refine va_sld hx hb hX hbl hbA hS3 (inB_vp h163) dL_law_1062 ?_
                                                                      obtain ⟨y1063, hy1063, hm⟩ := bn hm
                                                                      refine cVWi (As := [.int (xs ((z18.1 + (1 : Int32))).toNatClampNeg)]) (rest := []) (Wn := fun (uu : SV) => wX5 q ad (z18.2.1 0) ++ (wX3 q (ad 1) (z18.2.1 1) ++ (wX3 q (ad 2) (z18.2.1 2) ++ (wX3 q (ad 3) (z18.2.1 3) ++ (wX3 q (ad 4) (z18.2.1 4) ++ (wX0 q (ad 5) (z18.2.1 5) (ad 6 99) ++ (wX3 q (ad 6) (z18.2.1 6) ++ (wX1 q (ad 7) (z18.2.1 7) ++ (wX4 q (ad 8) uu (ad 1 99) (ad 7 99) ++ (wX2 q (ad 9) (z18.2.1 9) ++ (wX2 q (ad 10) (z18.2.1 10) ++ (wX2 q (ad 11) (z18.2.1 11) ++ (wX2 q (ad 12) (z18.2.1 12) ++ wX6 q a z18.2.2))))))))))))) X hP3 hD3 hS3 (fun _ h => h) hl2.1 (c_X5_fits l D q H3.size ad (z18.2.1 0) (z18.2.1 1) (z18.2.1 7) (z18.2.1 8) (xs ((z18.1 + (1 : Int32))).toNatClampNeg) y1063 hy1063) [0, 1, 2, 3, 4, 5, 6, 7, 8, 9, 10, 11, 12, 13, 14, 15, 16, 17, 68, 69, 70, 71, 72, 73, 74, 75, 76, 77] [18, 19, 20, 21, 22, 23, 24, 25, 26, 27, 28, 29, 30, 31, 32, 33, 34, 35, 36, 37, 38, 39, 40, 41, 42, 43, 44, 45, 46, 47, 48, 49, 50, 51, 52, 53, 54, 55, 56, 57, 58, 59, 60, 61, 62, 63, 64, 65, 66, 67, 78, 79, 80, 81, 82, 83, 84, 85, 86, 87, 88, 89, 90, 91, 92, 93, 94, 95, 96, 97, 98, 99, 100, 101, 102, 103] [76, 77, 78, 79, 80, 81, 82, 83, 84, 85, 86, 87, 88, 89, 90, 91, 92, 93, 0, 1, 2, 3, 4, 5, 6, 7, 8, 9, 10, 11, 12, 13, 14, 15, 16, 17, 18, 19, 20, 21, 22, 23, 24, 25, 26, 27, 28, 29, 30, 31, 32, 33, 34, 35, 36, 37, 38, 39, 40, 41, 42, 43, 44, 45, 46, 47, 48, 49, 94, 95, 96, 97, 98, 99, 100, 101, 102, 103, 50, 51, 52, 53, 54, 55, 56, 57, 58, 59, 60, 61, 62, 63, 64, 65, 66, 67, 68, 69, 70, 71, 72, 73, 74, 75] rfl (Wr := wX3 q (ad 2) (z18.2.1 2) ++ (wX3 q (ad 3) (z18.2.1 3) ++ (wX3 q (ad 4) (z18.2.1 4) ++ (wX0 q (ad 5) (z18.2.1 5) (ad 6 99) ++ (wX3 q (ad 6) (z18.2.1 6) ++ (wX2 q (ad 9) (z18.2.1 9) ++ (wX2 q (ad 10) (z18.2.1 10) ++ (wX2 q (ad 11) (z18.2.1 11) ++ (wX2 q (ad 12) (z18.2.1 12) ++ wX6 q a z18.2.2))))))))) rfl (by decide) (by decide) (by decide) (by decide) (fun _ => rfl) 0 rfl rfl rfl k_776 mX5_fits ⟨rfl, rfl⟩ ⟨Nat.le_of_ble_eq_true rfl, Nat.le_of_ble_eq_true rfl⟩ rfl rfl (Nat.le_of_ble_eq_true rfl) dL_law_1063 ⟨Nat.le_of_ble_eq_true rfl, Nat.le_of_ble_eq_true rfl⟩ (fun H164 locs164 hP hD hS164 => ?_)
                                                                      have hP164 : va_P D cls (wX5 q ad (z18.2.1 0) ++ (wX3 q (ad 1) (z18.2.1 1) ++ (wX3 q (ad 2) (z18.2.1 2) ++ (wX3 q (ad 3) (z18.2.1 3) ++ (wX3 q (ad 4) (z18.2.1 4) ++ (wX0 q (ad 5) (z18.2.1 5) (ad 6 99) ++ (wX3 q (ad 6) (z18.2.1 6) ++ (wX1 q (ad 7) (z18.2.1 7) ++ (wX4 q (ad 8) y1063.2 (ad 1 99) (ad 7 99) ++ (wX2 q (ad 9) (z18.2.1 9) ++ (wX2 q (ad 10) (z18.2.1 10) ++ (wX2 q (ad 11) (z18.2.1 11) ++ (wX2 q (ad 12) (z18.2.1 12) ++ wX6 q a z18.2.2))))))))))))) H164 := hP
                                                                      have hD164 : va_D (fun z : Nat => s.heap.size ≤ z) (wX5 q ad (z18.2.1 0) ++ (wX3 q (ad 1) (z18.2.1 1) ++ (wX3 q (ad 2) (z18.2.1 2) ++ (wX3 q (ad 3) (z18.2.1 3) ++ (wX3 q (ad 4) (z18.2.1 4) ++ (wX0 q (ad 5) (z18.2.1 5) (ad 6 99) ++ (wX3 q (ad 6) (z18.2.1 6) ++ (wX1 q (ad 7) (z18.2.1 7) ++ (wX4 q (ad 8) y1063.2 (ad 1 99) (ad 7 99) ++ (wX2 q (ad 9) (z18.2.1 9) ++ (wX2 q (ad 10) (z18.2.1 10) ++ (wX2 q (ad 11) (z18.2.1 11) ++ (wX2 q (ad 12) (z18.2.1 12) ++ wX6 q a z18.2.2))))))))))))) := hD
                                                                      clear hP hD hP3 hD3 hS3
                                                                      refine lv_aload_n hx hb dL_law_1066 rfl (lv_at hl2 0 rfl) ?_
                                                                      refine lv_aload_n hx hb dL_law_1067 rfl (lv_at hl2 2 rfl) ?_
                                                                      refine lv_iload_n hx hb dL_law_1068 rfl (lv_at hl2 3 rfl) ?_
                                                                      refine lv_iconst (v := (1 : Int32)) hx hb dL_law_1069 (by decide) ?_
                                                                      refine lv_iadd hx hb dL_law_1070 ?_
                                                                      obtain ⟨h165, hm⟩ := ckd hm
                                                                      refine va_sld hx hb hX hbl hbA hS164 (inB_vp h165) dL_law_1071 ?_
                                                                      obtain ⟨y1072, hy1072, hm⟩ := bn hm
                                                                      refine cVWi (As := [.int (xs ((z18.1 + (1 : Int32))).toNatClampNeg)]) (rest := [.int y1063.1]) (Wn := fun (uu : SV) => wX5 q ad (z18.2.1 0) ++ (wX3 q (ad 1) (z18.2.1 1) ++ (wX3 q (ad 2) (z18.2.1 2) ++ (wX3 q (ad 3) (z18.2.1 3) ++ (wX3 q (ad 4) (z18.2.1 4) ++ (wX0 q (ad 5) (z18.2.1 5) (ad 6 99) ++ (wX3 q (ad 6) (z18.2.1 6) ++ (wX1 q (ad 7) (z18.2.1 7) ++ (wX4 q (ad 8) y1063.2 (ad 1 99) (ad 7 99) ++ (wX2 q (ad 9) (z18.2.1 9) ++ (wX2 q (ad 10) (z18.2.1 10) ++ (wX2 q (ad 11) (z18.2.1 11) ++ (wX2 q (ad 12) (z18.2.1 12) ++ wX6 q a uu))))))))))))) X hP164 hD164 hS164 (fun _ h => h) hl2.1 (c_X6_fits l D q H164.size a z18.2.2 (xs ((z18.1 + (1 : Int32))).toNatClampNeg) y1072 hy1072) [86, 87, 88, 89, 90, 91, 92, 93, 94, 95, 96, 97, 98, 99, 100, 101, 102, 103] [0, 1, 2, 3, 4, 5, 6, 7, 8, 9, 10, 11, 12, 13, 14, 15, 16, 17, 18, 19, 20, 21, 22, 23, 24, 25, 26, 27, 28, 29, 30, 31, 32, 33, 34, 35, 36, 37, 38, 39, 40, 41, 42, 43, 44, 45, 46, 47, 48, 49, 50, 51, 52, 53, 54, 55, 56, 57, 58, 59, 60, 61, 62, 63, 64, 65, 66, 67, 68, 69, 70, 71, 72, 73, 74, 75, 76, 77, 78, 79, 80, 81, 82, 83, 84, 85] [0, 1, 2, 3, 4, 5, 6, 7, 8, 9, 10, 11, 12, 13, 14, 15, 16, 17, 18, 19, 20, 21, 22, 23, 24, 25, 26, 27, 28, 29, 30, 31, 32, 33, 34, 35, 36, 37, 38, 39, 40, 41, 42, 43, 44, 45, 46, 47, 48, 49, 50, 51, 52, 53, 54, 55, 56, 57, 58, 59, 60, 61, 62, 63, 64, 65, 66, 67, 68, 69, 70, 71, 72, 73, 74, 75, 76, 77, 78, 79, 80, 81, 82, 83, 84, 85, 86, 87, 88, 89, 90, 91, 92, 93, 94, 95, 96, 97, 98, 99, 100, 101, 102, 103] rfl (Wr := wX5 q ad (z18.2.1 0) ++ (wX3 q (ad 1) (z18.2.1 1) ++ (wX3 q (ad 2) (z18.2.1 2) ++ (wX3 q (ad 3) (z18.2.1 3) ++ (wX3 q (ad 4) (z18.2.1 4) ++ (wX0 q (ad 5) (z18.2.1 5) (ad 6 99) ++ (wX3 q (ad 6) (z18.2.1 6) ++ (wX1 q (ad 7) (z18.2.1 7) ++ (wX4 q (ad 8) y1063.2 (ad 1 99) (ad 7 99) ++ (wX2 q (ad 9) (z18.2.1 9) ++ (wX2 q (ad 10) (z18.2.1 10) ++ (wX2 q (ad 11) (z18.2.1 11) ++ wX2 q (ad 12) (z18.2.1 12))))))))))))) rfl (by decide) (by decide) (by decide) (by decide) (fun _ => rfl) 86 rfl rfl rfl k_1279 mX6_fits ⟨rfl, rfl⟩ ⟨Nat.le_of_ble_eq_true rfl, Nat.le_of_ble_eq_true rfl⟩ rfl rfl (Nat.le_of_ble_eq_true rfl) dL_law_1072 ⟨Nat.le_of_ble_eq_true rfl, Nat.le_of_ble_eq_true rfl⟩ (fun H166 locs166 hP hD hS166 => ?_)
                                                                      have hP166 : va_P D cls (wX5 q ad (z18.2.1 0) ++ (wX3 q (ad 1) (z18.2.1 1) ++ (wX3 q (ad 2) (z18.2.1 2) ++ (wX3 q (ad 3) (z18.2.1 3) ++ (wX3 q (ad 4) (z18.2.1 4) ++ (wX0 q (ad 5) (z18.2.1 5) (ad 6 99) ++ (wX3 q (ad 6) (z18.2.1 6) ++ (wX1 q (ad 7) (z18.2.1 7) ++ (wX4 q (ad 8) y1063.2 (ad 1 99) (ad 7 99) ++ (wX2 q (ad 9) (z18.2.1 9) ++ (wX2 q (ad 10) (z18.2.1 10) ++ (wX2 q (ad 11) (z18.2.1 11) ++ (wX2 q (ad 12) (z18.2.1 12) ++ wX6 q a y1072.2))))))))))))) H166 := hP
                                                                      have hD166 : va_D (fun z : Nat => s.heap.size ≤ z) (wX5 q ad (z18.2.1 0) ++ (wX3 q (ad 1) (z18.2.1 1) ++ (wX3 q (ad 2) (z18.2.1 2) ++ (wX3 q (ad 3) (z18.2.1 3) ++ (wX3 q (ad 4) (z18.2.1 4) ++ (wX0 q (ad 5) (z18.2.1 5) (ad 6 99) ++ (wX3 q (ad 6) (z18.2.1 6) ++ (wX1 q (ad 7) (z18.2.1 7) ++ (wX4 q (ad 8) y1063.2 (ad 1 99) (ad 7 99) ++ (wX2 q (ad 9) (z18.2.1 9) ++ (wX2 q (ad 10) (z18.2.1 10) ++ (wX2 q (ad 11) (z18.2.1 11) ++ (wX2 q (ad 12) (z18.2.1 12) ++ wX6 q a y1072.2))))))))))))) := hD
                                                                      clear hP hD hP164 hD164 hS164
                                                                      refine lv_icmp_eq (tgt := 1367) hx hb dL_law_1075 (by decide) (fun c1075 => ?_) (fun c1075 => ?_)
                                                                      · replace hm := tp hm c1075
                                                                        refine lv_iinc (v := (z18.1 + (5 : Int32))) (lv' := [(3, .int (z18.1 + (5 : Int32))), (2, .ref (a 99)), (1, .ref (ad 0 99)), (0, .ref b)]) hx hb dL_law_1367 hl2 (k := 3) rfl rfl (by decide) rfl (fun ls167 hl167 => ?_)
                                                                        clear hl2
                                                                        refine lv_goto (tgt := 18) hx hb dL_law_1370 (by decide) ?_
                                                                        cases hm
                                                                        exact ih18 ((z18.1 + (5 : Int32)), (mkG (z18.2.1 0) (z18.2.1 1) (z18.2.1 2) (z18.2.1 3) (z18.2.1 4) (z18.2.1 5) (z18.2.1 6) (z18.2.1 7) y1063.2 (z18.2.1 9) (z18.2.1 10) (z18.2.1 11) (z18.2.1 12)), y1072.2) ρ18 hz18 hK18 _ _ hP166 hD166 hS166 _ (lv_sub hl167 [1, 2, 3, 0] rfl)
                                                                      · replace hm := tn hm c1075
                                                                        refine lv_iconst (v := (0 : Int32)) hx hb dL_law_1078 (by decide) ?_
                                                                        cases hm
                                                                        cases hz18
                                                                        have hm : (some (0 : Int32) : Option Int32) = some (1 : Int32) := hK18
                                                                        exact absurd (Option.some.inj hm) (by decide)
                                                                    · replace hm := tn hm c32_30
                                                                      by_cases c32_31 : ((xs (z18.1).toNatClampNeg) &&& (63 : Int32)) = (31 : Int32)
                                                                      · replace hm := tp hm c32_31
                                                                        refine lv_tableIn (off := 1048) (tgt := 1080) hx hb dL_law_32 (by rw [c32_31]; decide) (by rw [c32_31]; decide) (by rw [c32_31]; rfl) (by decide) ?_
                                                                        refine lv_aload_n hx hb dL_law_1080 rfl (lv_at hl2 1 rfl) ?_
                                                                        refine lv_aload_n hx hb dL_law_1081 rfl (lv_at hl2 2 rfl) ?_
                                                                        refine lv_iload_n hx hb dL_law_1082 rfl (lv_at hl2 3 rfl) ?_
                                                                        refine lv_iconst (v := (1 : Int32)) hx hb dL_law_1083 (by decide) ?_
                                                                        refine lv_iadd hx hb dL_law_1084 ?_
                                                                        obtain ⟨h168, hm⟩ := ckd hm
                                                                        refine va_sld hx hb hX hbl hbA hS3 (inB_vp h168) dL_law_1085 ?_
                                                                        obtain ⟨y1086, hy1086, hm⟩ := bn hm
                                                                        refine cVWi (As := [.int (xs ((z18.1 + (1 : Int32))).toNatClampNeg)]) (rest := []) (Wn := fun (uu : SV × SV) => wX5 q ad uu.1 ++ (wX3 q (ad 1) (z18.2.1 1) ++ (wX3 q (ad 2) (z18.2.1 2) ++ (wX3 q (ad 3) (z18.2.1 3) ++ (wX3 q (ad 4) (z18.2.1 4) ++ (wX0 q (ad 5) (z18.2.1 5) (ad 6 99) ++ (wX3 q (ad 6) (z18.2.1 6) ++ (wX1 q (ad 7) (z18.2.1 7) ++ (wX4 q (ad 8) uu.2 (ad 1 99) (ad 7 99) ++ (wX2 q (ad 9) (z18.2.1 9) ++ (wX2 q (ad 10) (z18.2.1 10) ++ (wX2 q (ad 11) (z18.2.1 11) ++ (wX2 q (ad 12) (z18.2.1 12) ++ wX6 q a z18.2.2))))))))))))) X hP3 hD3 hS3 (fun _ h => h) hl2.1 (c_X5_ask l D q H3.size ad (z18.2.1 0) (z18.2.1 1) (z18.2.1 7) (z18.2.1 8) (xs ((z18.1 + (1 : Int32))).toNatClampNeg) y1086 hy1086) [0, 1, 2, 3, 4, 5, 6, 7, 8, 9, 10, 11, 12, 13, 14, 15, 16, 17, 68, 69, 70, 71, 72, 73, 74, 75, 76, 77] [18, 19, 20, 21, 22, 23, 24, 25, 26, 27, 28, 29, 30, 31, 32, 33, 34, 35, 36, 37, 38, 39, 40, 41, 42, 43, 44, 45, 46, 47, 48, 49, 50, 51, 52, 53, 54, 55, 56, 57, 58, 59, 60, 61, 62, 63, 64, 65, 66, 67, 78, 79, 80, 81, 82, 83, 84, 85, 86, 87, 88, 89, 90, 91, 92, 93, 94, 95, 96, 97, 98, 99, 100, 101, 102, 103] [76, 77, 78, 79, 80, 81, 82, 83, 84, 85, 86, 87, 88, 89, 90, 91, 92, 93, 0, 1, 2, 3, 4, 5, 6, 7, 8, 9, 10, 11, 12, 13, 14, 15, 16, 17, 18, 19, 20, 21, 22, 23, 24, 25, 26, 27, 28, 29, 30, 31, 32, 33, 34, 35, 36, 37, 38, 39, 40, 41, 42, 43, 44, 45, 46, 47, 48, 49, 94, 95, 96, 97, 98, 99, 100, 101, 102, 103, 50, 51, 52, 53, 54, 55, 56, 57, 58, 59, 60, 61, 62, 63, 64, 65, 66, 67, 68, 69, 70, 71, 72, 73, 74, 75] rfl (Wr := wX3 q (ad 2) (z18.2.1 2) ++ (wX3 q (ad 3) (z18.2.1 3) ++ (wX3 q (ad 4) (z18.2.1 4) ++ (wX0 q (ad 5) (z18.2.1 5) (ad 6 99) ++ (wX3 q (ad 6) (z18.2.1 6) ++ (wX2 q (ad 9) (z18.2.1 9) ++ (wX2 q (ad 10) (z18.2.1 10) ++ (wX2 q (ad 11) (z18.2.1 11) ++ (wX2 q (ad 12) (z18.2.1 12) ++ wX6 q a z18.2.2))))))))) rfl (by decide) (by decide) (by decide) (by decide) (fun _ => rfl) 0 rfl rfl rfl k_782 mX5_ask ⟨rfl, rfl⟩ ⟨Nat.le_of_ble_eq_true rfl, Nat.le_of_ble_eq_true rfl⟩ rfl rfl (Nat.le_of_ble_eq_true rfl) dL_law_1086 ⟨Nat.le_of_ble_eq_true rfl, Nat.le_of_ble_eq_true rfl⟩ (fun H169 locs169 hP hD hS169 => ?_)
                                                                        have hP169 : va_P D cls (wX5 q ad y1086.2.1 ++ (wX3 q (ad 1) (z18.2.1 1) ++ (wX3 q (ad 2) (z18.2.1 2) ++ (wX3 q (ad 3) (z18.2.1 3) ++ (wX3 q (ad 4) (z18.2.1 4) ++ (wX0 q (ad 5) (z18.2.1 5) (ad 6 99) ++ (wX3 q (ad 6) (z18.2.1 6) ++ (wX1 q (ad 7) (z18.2.1 7) ++ (wX4 q (ad 8) y1086.2.2 (ad 1 99) (ad 7 99) ++ (wX2 q (ad 9) (z18.2.1 9) ++ (wX2 q (ad 10) (z18.2.1 10) ++ (wX2 q (ad 11) (z18.2.1 11) ++ (wX2 q (ad 12) (z18.2.1 12) ++ wX6 q a z18.2.2))))))))))))) H169 := hP
                                                                        have hD169 : va_D (fun z : Nat => s.heap.size ≤ z) (wX5 q ad y1086.2.1 ++ (wX3 q (ad 1) (z18.2.1 1) ++ (wX3 q (ad 2) (z18.2.1 2) ++ (wX3 q (ad 3) (z18.2.1 3) ++ (wX3 q (ad 4) (z18.2.1 4) ++ (wX0 q (ad 5) (z18.2.1 5) (ad 6 99) ++ (wX3 q (ad 6) (z18.2.1 6) ++ (wX1 q (ad 7) (z18.2.1 7) ++ (wX4 q (ad 8) y1086.2.2 (ad 1 99) (ad 7 99) ++ (wX2 q (ad 9) (z18.2.1 9) ++ (wX2 q (ad 10) (z18.2.1 10) ++ (wX2 q (ad 11) (z18.2.1 11) ++ (wX2 q (ad 12) (z18.2.1 12) ++ wX6 q a z18.2.2))))))))))))) := hD
                                                                        clear hP hD hP3 hD3 hS3
                                                                        refine lv_aload_n hx hb dL_law_1089 rfl (lv_at hl2 0 rfl) ?_
                                                                        refine lv_aload_n hx hb dL_law_1090 rfl (lv_at hl2 2 rfl) ?_
                                                                        refine lv_iload_n hx hb dL_law_1091 rfl (lv_at hl2 3 rfl) ?_
                                                                        refine lv_iconst (v := (1 : Int32)) hx hb dL_law_1092 (by decide) ?_
                                                                        refine lv_iadd hx hb dL_law_1093 ?_
                                                                        obtain ⟨h170, hm⟩ := ckd hm
                                                                        refine va_sld hx hb hX hbl hbA hS169 (inB_vp h170) dL_law_1094 ?_
                                                                        obtain ⟨y1095, hy1095, hm⟩ := bn hm
                                                                        refine cVWi (As := [.int (xs ((z18.1 + (1 : Int32))).toNatClampNeg)]) (rest := [.int y1086.1]) (Wn := fun (uu : SV) => wX5 q ad y1086.2.1 ++ (wX3 q (ad 1) (z18.2.1 1) ++ (wX3 q (ad 2) (z18.2.1 2) ++ (wX3 q (ad 3) (z18.2.1 3) ++ (wX3 q (ad 4) (z18.2.1 4) ++ (wX0 q (ad 5) (z18.2.1 5) (ad 6 99) ++ (wX3 q (ad 6) (z18.2.1 6) ++ (wX1 q (ad 7) (z18.2.1 7) ++ (wX4 q (ad 8) y1086.2.2 (ad 1 99) (ad 7 99) ++ (wX2 q (ad 9) (z18.2.1 9) ++ (wX2 q (ad 10) (z18.2.1 10) ++ (wX2 q (ad 11) (z18.2.1 11) ++ (wX2 q (ad 12) (z18.2.1 12) ++ wX6 q a uu))))))))))))) X hP169 hD169 hS169 (fun _ h => h) hl2.1 (c_X6_ask l D q H169.size a z18.2.2 (xs ((z18.1 + (1 : Int32))).toNatClampNeg) y1095 hy1095) [86, 87, 88, 89, 90, 91, 92, 93, 94, 95, 96, 97, 98, 99, 100, 101, 102, 103] [0, 1, 2, 3, 4, 5, 6, 7, 8, 9, 10, 11, 12, 13, 14, 15, 16, 17, 18, 19, 20, 21, 22, 23, 24, 25, 26, 27, 28, 29, 30, 31, 32, 33, 34, 35, 36, 37, 38, 39, 40, 41, 42, 43, 44, 45, 46, 47, 48, 49, 50, 51, 52, 53, 54, 55, 56, 57, 58, 59, 60, 61, 62, 63, 64, 65, 66, 67, 68, 69, 70, 71, 72, 73, 74, 75, 76, 77, 78, 79, 80, 81, 82, 83, 84, 85] [0, 1, 2, 3, 4, 5, 6, 7, 8, 9, 10, 11, 12, 13, 14, 15, 16, 17, 18, 19, 20, 21, 22, 23, 24, 25, 26, 27, 28, 29, 30, 31, 32, 33, 34, 35, 36, 37, 38, 39, 40, 41, 42, 43, 44, 45, 46, 47, 48, 49, 50, 51, 52, 53, 54, 55, 56, 57, 58, 59, 60, 61, 62, 63, 64, 65, 66, 67, 68, 69, 70, 71, 72, 73, 74, 75, 76, 77, 78, 79, 80, 81, 82, 83, 84, 85, 86, 87, 88, 89, 90, 91, 92, 93, 94, 95, 96, 97, 98, 99, 100, 101, 102, 103] rfl (Wr := wX5 q ad y1086.2.1 ++ (wX3 q (ad 1) (z18.2.1 1) ++ (wX3 q (ad 2) (z18.2.1 2) ++ (wX3 q (ad 3) (z18.2.1 3) ++ (wX3 q (ad 4) (z18.2.1 4) ++ (wX0 q (ad 5) (z18.2.1 5) (ad 6 99) ++ (wX3 q (ad 6) (z18.2.1 6) ++ (wX1 q (ad 7) (z18.2.1 7) ++ (wX4 q (ad 8) y1086.2.2 (ad 1 99) (ad 7 99) ++ (wX2 q (ad 9) (z18.2.1 9) ++ (wX2 q (ad 10) (z18.2.1 10) ++ (wX2 q (ad 11) (z18.2.1 11) ++ wX2 q (ad 12) (z18.2.1 12))))))))))))) rfl (by decide) (by decide) (by decide) (by decide) (fun _ => rfl) 86 rfl rfl rfl k_1287 mX6_ask ⟨rfl, rfl⟩ ⟨Nat.le_of_ble_eq_true rfl, Nat.le_of_ble_eq_true rfl⟩ rfl rfl (Nat.le_of_ble_eq_true rfl) dL_law_1095 ⟨Nat.le_of_ble_eq_true rfl, Nat.le_of_ble_eq_true rfl⟩ (fun H171 locs171 hP hD hS171 => ?_)
                                                                        have hP171 : va_P D cls (wX5 q ad y1086.2.1 ++ (wX3 q (ad 1) (z18.2.1 1) ++ (wX3 q (ad 2) (z18.2.1 2) ++ (wX3 q (ad 3) (z18.2.1 3) ++ (wX3 q (ad 4) (z18.2.1 4) ++ (wX0 q (ad 5) (z18.2.1 5) (ad 6 99) ++ (wX3 q (ad 6) (z18.2.1 6) ++ (wX1 q (ad 7) (z18.2.1 7) ++ (wX4 q (ad 8) y1086.2.2 (ad 1 99) (ad 7 99) ++ (wX2 q (ad 9) (z18.2.1 9) ++ (wX2 q (ad 10) (z18.2.1 10) ++ (wX2 q (ad 11) (z18.2.1 11) ++ (wX2 q (ad 12) (z18.2.1 12) ++ wX6 q a y1095.2))))))))))))) H171 := hP
                                                                        have hD171 : va_D (fun z : Nat => s.heap.size ≤ z) (wX5 q ad y1086.2.1 ++ (wX3 q (ad 1) (z18.2.1 1) ++ (wX3 q (ad 2) (z18.2.1 2) ++ (wX3 q (ad 3) (z18.2.1 3) ++ (wX3 q (ad 4) (z18.2.1 4) ++ (wX0 q (ad 5) (z18.2.1 5) (ad 6 99) ++ (wX3 q (ad 6) (z18.2.1 6) ++ (wX1 q (ad 7) (z18.2.1 7) ++ (wX4 q (ad 8) y1086.2.2 (ad 1 99) (ad 7 99) ++ (wX2 q (ad 9) (z18.2.1 9) ++ (wX2 q (ad 10) (z18.2.1 10) ++ (wX2 q (ad 11) (z18.2.1 11) ++ (wX2 q (ad 12) (z18.2.1 12) ++ wX6 q a y1095.2))))))))))))) := hD
                                                                        clear hP hD hP169 hD169 hS169
                                                                        refine lv_icmp_eq (tgt := 1367) hx hb dL_law_1098 (by decide) (fun c1098 => ?_) (fun c1098 => ?_)
                                                                        · replace hm := tp hm c1098
                                                                          refine lv_iinc (v := (z18.1 + (5 : Int32))) (lv' := [(3, .int (z18.1 + (5 : Int32))), (2, .ref (a 99)), (1, .ref (ad 0 99)), (0, .ref b)]) hx hb dL_law_1367 hl2 (k := 3) rfl rfl (by decide) rfl (fun ls172 hl172 => ?_)
                                                                          clear hl2
                                                                          refine lv_goto (tgt := 18) hx hb dL_law_1370 (by decide) ?_
                                                                          cases hm
                                                                          exact ih18 ((z18.1 + (5 : Int32)), (mkG y1086.2.1 (z18.2.1 1) (z18.2.1 2) (z18.2.1 3) (z18.2.1 4) (z18.2.1 5) (z18.2.1 6) (z18.2.1 7) y1086.2.2 (z18.2.1 9) (z18.2.1 10) (z18.2.1 11) (z18.2.1 12)), y1095.2) ρ18 hz18 hK18 _ _ hP171 hD171 hS171 _ (lv_sub hl172 [1, 2, 3, 0] rfl)
                                                                        · replace hm := tn hm c1098
                                                                          refine lv_iconst (v := (0 : Int32)) hx hb dL_law_1101 (by decide) ?_
                                                                          cases hm
                                                                          cases hz18
                                                                          have hm : (some (0 : Int32) : Option Int32) = some (1 : Int32) := hK18
                                                                          exact absurd (Option.some.inj hm) (by decide)
                                                                      · replace hm := tn hm c32_31
                                                                        by_cases c32_32 : ((xs (z18.1).toNatClampNeg) &&& (63 : Int32)) = (32 : Int32)
                                                                        · replace hm := tp hm c32_32
                                                                          refine lv_tableIn (off := 1071) (tgt := 1103) hx hb dL_law_32 (by rw [c32_32]; decide) (by rw [c32_32]; decide) (by rw [c32_32]; rfl) (by decide) ?_
                                                                          refine lv_aload_n hx hb dL_law_1103 rfl (lv_at hl2 1 rfl) ?_
                                                                          refine lv_aload_n hx hb dL_law_1104 rfl (lv_at hl2 2 rfl) ?_
                                                                          refine lv_iload_n hx hb dL_law_1105 rfl (lv_at hl2 3 rfl) ?_
                                                                          refine lv_iconst (v := (1 : Int32)) hx hb dL_law_1106 (by decide) ?_
                                                                          refine lv_iadd hx hb dL_law_1107 ?_
                                                                          obtain ⟨h173, hm⟩ := ckd hm
                                                                          refine va_sld hx hb hX hbl hbA hS3 (inB_vp h173) dL_law_1108 ?_
                                                                          refine lv_aload_n hx hb dL_law_1109 rfl (lv_at hl2 2 rfl) ?_
                                                                          refine lv_iload_n hx hb dL_law_1110 rfl (lv_at hl2 3 rfl) ?_
                                                                          refine lv_iconst (v := (2 : Int32)) hx hb dL_law_1111 (by decide) ?_
                                                                          refine lv_iadd hx hb dL_law_1112 ?_
                                                                          obtain ⟨h174, hm⟩ := ckd hm
                                                                          refine va_sld hx hb hX hbl hbA hS3 (inB_vp h174) dL_law_1113 ?_
                                                                          refine lv_aload_n hx hb dL_law_1114 rfl (lv_at hl2 2 rfl) ?_
                                                                          refine lv_iload_n hx hb dL_law_1115 rfl (lv_at hl2 3 rfl) ?_
                                                                          refine lv_iconst (v := (3 : Int32)) hx hb dL_law_1116 (by decide) ?_
                                                                          refine lv_iadd hx hb dL_law_1117 ?_
                                                                          obtain ⟨h175, hm⟩ := ckd hm
                                                                          refine va_sld hx hb hX hbl hbA hS3 (inB_vp h175) dL_law_1118 ?_
                                                                          obtain ⟨y1119, hy1119, hm⟩ := bn hm
                                                                          refine cVWi (As := [.int (xs ((z18.1 + (1 : Int32))).toNatClampNeg), .int (xs ((z18.1 + (2 : Int32))).toNatClampNeg), .int (xs ((z18.1 + (3 : Int32))).toNatClampNeg)]) (rest := []) (Wn := fun (uu : SV) => wX5 q ad (z18.2.1 0) ++ (wX3 q (ad 1) (z18.2.1 1) ++ (wX3 q (ad 2) uu ++ (wX3 q (ad 3) (z18.2.1 3) ++ (wX3 q (ad 4) (z18.2.1 4) ++ (wX0 q (ad 5) (z18.2.1 5) (ad 6 99) ++ (wX3 q (ad 6) (z18.2.1 6) ++ (wX1 q (ad 7) (z18.2.1 7) ++ (wX4 q (ad 8) (z18.2.1 8) (ad 1 99) (ad 7 99) ++ (wX2 q (ad 9) (z18.2.1 9) ++ (wX2 q (ad 10) (z18.2.1 10) ++ (wX2 q (ad 11) (z18.2.1 11) ++ (wX2 q (ad 12) (z18.2.1 12) ++ wX6 q a z18.2.2))))))))))))) X hP3 hD3 hS3 (fun _ h => h) hl2.1 (c_X5_drift l D q H3.size ad (z18.2.1 0) (z18.2.1 1) (z18.2.1 2) (xs ((z18.1 + (1 : Int32))).toNatClampNeg) (xs ((z18.1 + (2 : Int32))).toNatClampNeg) (xs ((z18.1 + (3 : Int32))).toNatClampNeg) y1119 hy1119) [0, 1, 2, 3, 4, 5, 6, 7, 8, 9, 10, 11, 12, 13, 14, 15, 16, 17, 18, 19, 20, 21, 22, 23, 24, 25, 26, 27, 28, 29] [30, 31, 32, 33, 34, 35, 36, 37, 38, 39, 40, 41, 42, 43, 44, 45, 46, 47, 48, 49, 50, 51, 52, 53, 54, 55, 56, 57, 58, 59, 60, 61, 62, 63, 64, 65, 66, 67, 68, 69, 70, 71, 72, 73, 74, 75, 76, 77, 78, 79, 80, 81, 82, 83, 84, 85, 86, 87, 88, 89, 90, 91, 92, 93, 94, 95, 96, 97, 98, 99, 100, 101, 102, 103] [74, 75, 76, 77, 78, 79, 80, 81, 82, 83, 84, 85, 86, 87, 88, 89, 90, 91, 92, 93, 94, 95, 96, 97, 98, 99, 100, 101, 102, 103, 0, 1, 2, 3, 4, 5, 6, 7, 8, 9, 10, 11, 12, 13, 14, 15, 16, 17, 18, 19, 20, 21, 22, 23, 24, 25, 26, 27, 28, 29, 30, 31, 32, 33, 34, 35, 36, 37, 38, 39, 40, 41, 42, 43, 44, 45, 46, 47, 48, 49, 50, 51, 52, 53, 54, 55, 56, 57, 58, 59, 60, 61, 62, 63, 64, 65, 66, 67, 68, 69, 70, 71, 72, 73] rfl (Wr := wX3 q (ad 3) (z18.2.1 3) ++ (wX3 q (ad 4) (z18.2.1 4) ++ (wX0 q (ad 5) (z18.2.1 5) (ad 6 99) ++ (wX3 q (ad 6) (z18.2.1 6) ++ (wX1 q (ad 7) (z18.2.1 7) ++ (wX4 q (ad 8) (z18.2.1 8) (ad 1 99) (ad 7 99) ++ (wX2 q (ad 9) (z18.2.1 9) ++ (wX2 q (ad 10) (z18.2.1 10) ++ (wX2 q (ad 11) (z18.2.1 11) ++ (wX2 q (ad 12) (z18.2.1 12) ++ wX6 q a z18.2.2)))))))))) rfl (by decide) (by decide) (by decide) (by decide) (fun _ => rfl) 0 rfl rfl rfl k_795 mX5_drift ⟨rfl, rfl⟩ ⟨Nat.le_of_ble_eq_true rfl, Nat.le_of_ble_eq_true rfl⟩ rfl rfl (Nat.le_of_ble_eq_true rfl) dL_law_1119 ⟨Nat.le_of_ble_eq_true rfl, Nat.le_of_ble_eq_true rfl⟩ (fun H176 locs176 hP hD hS176 => ?_)
                                                                          have hP176 : va_P D cls (wX5 q ad (z18.2.1 0) ++ (wX3 q (ad 1) (z18.2.1 1) ++ (wX3 q (ad 2) y1119.2 ++ (wX3 q (ad 3) (z18.2.1 3) ++ (wX3 q (ad 4) (z18.2.1 4) ++ (wX0 q (ad 5) (z18.2.1 5) (ad 6 99) ++ (wX3 q (ad 6) (z18.2.1 6) ++ (wX1 q (ad 7) (z18.2.1 7) ++ (wX4 q (ad 8) (z18.2.1 8) (ad 1 99) (ad 7 99) ++ (wX2 q (ad 9) (z18.2.1 9) ++ (wX2 q (ad 10) (z18.2.1 10) ++ (wX2 q (ad 11) (z18.2.1 11) ++ (wX2 q (ad 12) (z18.2.1 12) ++ wX6 q a z18.2.2))))))))))))) H176 := hP
                                                                          have hD176 : va_D (fun z : Nat => s.heap.size ≤ z) (wX5 q ad (z18.2.1 0) ++ (wX3 q (ad 1) (z18.2.1 1) ++ (wX3 q (ad 2) y1119.2 ++ (wX3 q (ad 3) (z18.2.1 3) ++ (wX3 q (ad 4) (z18.2.1 4) ++ (wX0 q (ad 5) (z18.2.1 5) (ad 6 99) ++ (wX3 q (ad 6) (z18.2.1 6) ++ (wX1 q (ad 7) (z18.2.1 7) ++ (wX4 q (ad 8) (z18.2.1 8) (ad 1 99) (ad 7 99) ++ (wX2 q (ad 9) (z18.2.1 9) ++ (wX2 q (ad 10) (z18.2.1 10) ++ (wX2 q (ad 11) (z18.2.1 11) ++ (wX2 q (ad 12) (z18.2.1 12) ++ wX6 q a z18.2.2))))))))))))) := hD
                                                                          clear hP hD hP3 hD3 hS3
                                                                          refine lv_aload_n hx hb dL_law_1122 rfl (lv_at hl2 0 rfl) ?_
                                                                          refine lv_aload_n hx hb dL_law_1123 rfl (lv_at hl2 2 rfl) ?_
                                                                          refine lv_iload_n hx hb dL_law_1124 rfl (lv_at hl2 3 rfl) ?_
                                                                          refine lv_iconst (v := (1 : Int32)) hx hb dL_law_1125 (by decide) ?_
                                                                          refine lv_iadd hx hb dL_law_1126 ?_
                                                                          obtain ⟨h177, hm⟩ := ckd hm
                                                                          refine va_sld hx hb hX hbl hbA hS176 (inB_vp h177) dL_law_1127 ?_
                                                                          refine lv_aload_n hx hb dL_law_1128 rfl (lv_at hl2 2 rfl) ?_
                                                                          refine lv_iload_n hx hb dL_law_1129 rfl (lv_at hl2 3 rfl) ?_
                                                                          refine lv_iconst (v := (2 : Int32)) hx hb dL_law_1130 (by decide) ?_
                                                                          refine lv_iadd hx hb dL_law_1131 ?_
                                                                          obtain ⟨h178, hm⟩ := ckd hm
                                                                          refine va_sld hx hb hX hbl hbA hS176 (inB_vp h178) dL_law_1132 ?_
                                                                          refine lv_aload_n hx hb dL_law_1133 rfl (lv_at hl2 2 rfl) ?_
                                                                          refine lv_iload_n hx hb dL_law_1134 rfl (lv_at hl2 3 rfl) ?_
                                                                          refine lv_iconst (v := (3 : Int32)) hx hb dL_law_1135 (by decide) ?_
                                                                          refine lv_iadd hx hb dL_law_1136 ?_
                                                                          obtain ⟨h179, hm⟩ := ckd hm
                                                                          refine va_sld hx hb hX hbl hbA hS176 (inB_vp h179) dL_law_1137 ?_
                                                                          obtain ⟨y1138, hy1138, hm⟩ := bn hm
                                                                          refine cVWi (As := [.int (xs ((z18.1 + (1 : Int32))).toNatClampNeg), .int (xs ((z18.1 + (2 : Int32))).toNatClampNeg), .int (xs ((z18.1 + (3 : Int32))).toNatClampNeg)]) (rest := [.int y1119.1]) (Wn := fun (uu : SV) => wX5 q ad (z18.2.1 0) ++ (wX3 q (ad 1) (z18.2.1 1) ++ (wX3 q (ad 2) y1119.2 ++ (wX3 q (ad 3) (z18.2.1 3) ++ (wX3 q (ad 4) (z18.2.1 4) ++ (wX0 q (ad 5) (z18.2.1 5) (ad 6 99) ++ (wX3 q (ad 6) (z18.2.1 6) ++ (wX1 q (ad 7) (z18.2.1 7) ++ (wX4 q (ad 8) (z18.2.1 8) (ad 1 99) (ad 7 99) ++ (wX2 q (ad 9) (z18.2.1 9) ++ (wX2 q (ad 10) (z18.2.1 10) ++ (wX2 q (ad 11) (z18.2.1 11) ++ (wX2 q (ad 12) (z18.2.1 12) ++ wX6 q a uu))))))))))))) X hP176 hD176 hS176 (fun _ h => h) hl2.1 (c_X6_drift l D q H176.size a z18.2.2 (xs ((z18.1 + (1 : Int32))).toNatClampNeg) (xs ((z18.1 + (2 : Int32))).toNatClampNeg) (xs ((z18.1 + (3 : Int32))).toNatClampNeg) y1138 hy1138) [86, 87, 88, 89, 90, 91, 92, 93, 94, 95, 96, 97, 98, 99, 100, 101, 102, 103] [0, 1, 2, 3, 4, 5, 6, 7, 8, 9, 10, 11, 12, 13, 14, 15, 16, 17, 18, 19, 20, 21, 22, 23, 24, 25, 26, 27, 28, 29, 30, 31, 32, 33, 34, 35, 36, 37, 38, 39, 40, 41, 42, 43, 44, 45, 46, 47, 48, 49, 50, 51, 52, 53, 54, 55, 56, 57, 58, 59, 60, 61, 62, 63, 64, 65, 66, 67, 68, 69, 70, 71, 72, 73, 74, 75, 76, 77, 78, 79, 80, 81, 82, 83, 84, 85] [0, 1, 2, 3, 4, 5, 6, 7, 8, 9, 10, 11, 12, 13, 14, 15, 16, 17, 18, 19, 20, 21, 22, 23, 24, 25, 26, 27, 28, 29, 30, 31, 32, 33, 34, 35, 36, 37, 38, 39, 40, 41, 42, 43, 44, 45, 46, 47, 48, 49, 50, 51, 52, 53, 54, 55, 56, 57, 58, 59, 60, 61, 62, 63, 64, 65, 66, 67, 68, 69, 70, 71, 72, 73, 74, 75, 76, 77, 78, 79, 80, 81, 82, 83, 84, 85, 86, 87, 88, 89, 90, 91, 92, 93, 94, 95, 96, 97, 98, 99, 100, 101, 102, 103] rfl (Wr := wX5 q ad (z18.2.1 0) ++ (wX3 q (ad 1) (z18.2.1 1) ++ (wX3 q (ad 2) y1119.2 ++ (wX3 q (ad 3) (z18.2.1 3) ++ (wX3 q (ad 4) (z18.2.1 4) ++ (wX0 q (ad 5) (z18.2.1 5) (ad 6 99) ++ (wX3 q (ad 6) (z18.2.1 6) ++ (wX1 q (ad 7) (z18.2.1 7) ++ (wX4 q (ad 8) (z18.2.1 8) (ad 1 99) (ad 7 99) ++ (wX2 q (ad 9) (z18.2.1 9) ++ (wX2 q (ad 10) (z18.2.1 10) ++ (wX2 q (ad 11) (z18.2.1 11) ++ wX2 q (ad 12) (z18.2.1 12))))))))))))) rfl (by decide) (by decide) (by decide) (by decide) (fun _ => rfl) 86 rfl rfl rfl k_1291 mX6_drift ⟨rfl, rfl⟩ ⟨Nat.le_of_ble_eq_true rfl, Nat.le_of_ble_eq_true rfl⟩ rfl rfl (Nat.le_of_ble_eq_true rfl) dL_law_1138 ⟨Nat.le_of_ble_eq_true rfl, Nat.le_of_ble_eq_true rfl⟩ (fun H180 locs180 hP hD hS180 => ?_)
                                                                          have hP180 : va_P D cls (wX5 q ad (z18.2.1 0) ++ (wX3 q (ad 1) (z18.2.1 1) ++ (wX3 q (ad 2) y1119.2 ++ (wX3 q (ad 3) (z18.2.1 3) ++ (wX3 q (ad 4) (z18.2.1 4) ++ (wX0 q (ad 5) (z18.2.1 5) (ad 6 99) ++ (wX3 q (ad 6) (z18.2.1 6) ++ (wX1 q (ad 7) (z18.2.1 7) ++ (wX4 q (ad 8) (z18.2.1 8) (ad 1 99) (ad 7 99) ++ (wX2 q (ad 9) (z18.2.1 9) ++ (wX2 q (ad 10) (z18.2.1 10) ++ (wX2 q (ad 11) (z18.2.1 11) ++ (wX2 q (ad 12) (z18.2.1 12) ++ wX6 q a y1138.2))))))))))))) H180 := hP
                                                                          have hD180 : va_D (fun z : Nat => s.heap.size ≤ z) (wX5 q ad (z18.2.1 0) ++ (wX3 q (ad 1) (z18.2.1 1) ++ (wX3 q (ad 2) y1119.2 ++ (wX3 q (ad 3) (z18.2.1 3) ++ (wX3 q (ad 4) (z18.2.1 4) ++ (wX0 q (ad 5) (z18.2.1 5) (ad 6 99) ++ (wX3 q (ad 6) (z18.2.1 6) ++ (wX1 q (ad 7) (z18.2.1 7) ++ (wX4 q (ad 8) (z18.2.1 8) (ad 1 99) (ad 7 99) ++ (wX2 q (ad 9) (z18.2.1 9) ++ (wX2 q (ad 10) (z18.2.1 10) ++ (wX2 q (ad 11) (z18.2.1 11) ++ (wX2 q (ad 12) (z18.2.1 12) ++ wX6 q a y1138.2))))))))))))) := hD
                                                                          clear hP hD hP176 hD176 hS176
                                                                          refine lv_icmp_eq (tgt := 1367) hx hb dL_law_1141 (by decide) (fun c1141 => ?_) (fun c1141 => ?_)
                                                                          · replace hm := tp hm c1141
                                                                            refine lv_iinc (v := (z18.1 + (5 : Int32))) (lv' := [(3, .int (z18.1 + (5 : Int32))), (2, .ref (a 99)), (1, .ref (ad 0 99)), (0, .ref b)]) hx hb dL_law_1367 hl2 (k := 3) rfl rfl (by decide) rfl (fun ls181 hl181 => ?_)
                                                                            clear hl2
                                                                            refine lv_goto (tgt := 18) hx hb dL_law_1370 (by decide) ?_
                                                                            cases hm
                                                                            exact ih18 ((z18.1 + (5 : Int32)), (mkG (z18.2.1 0) (z18.2.1 1) y1119.2 (z18.2.1 3) (z18.2.1 4) (z18.2.1 5) (z18.2.1 6) (z18.2.1 7) (z18.2.1 8) (z18.2.1 9) (z18.2.1 10) (z18.2.1 11) (z18.2.1 12)), y1138.2) ρ18 hz18 hK18 _ _ hP180 hD180 hS180 _ (lv_sub hl181 [1, 2, 3, 0] rfl)
                                                                          · replace hm := tn hm c1141
                                                                            refine lv_iconst (v := (0 : Int32)) hx hb dL_law_1144 (by decide) ?_
                                                                            cases hm
                                                                            cases hz18
                                                                            have hm : (some (0 : Int32) : Option Int32) = some (1 : Int32) := hK18
                                                                            exact absurd (Option.some.inj hm) (by decide)
                                                                        · replace hm := tn hm c32_32
                                                                          by_cases c32_33 : ((xs (z18.1).toNatClampNeg) &&& (63 : Int32)) = (33 : Int32)
                                                                          · replace hm := tp hm c32_33
                                                                            refine lv_tableIn (off := 1114) (tgt := 1146) hx hb dL_law_32 (by rw [c32_33]; decide) (by rw [c32_33]; decide) (by rw [c32_33]; rfl) (by decide) ?_
                                                                            refine lv_aload_n hx hb dL_law_1146 rfl (lv_at hl2 1 rfl) ?_
                                                                            refine lv_aload_n hx hb dL_law_1147 rfl (lv_at hl2 2 rfl) ?_
                                                                            refine lv_iload_n hx hb dL_law_1148 rfl (lv_at hl2 3 rfl) ?_
                                                                            refine lv_iconst (v := (1 : Int32)) hx hb dL_law_1149 (by decide) ?_
                                                                            refine lv_iadd hx hb dL_law_1150 ?_
                                                                            obtain ⟨h182, hm⟩ := ckd hm
                                                                            refine va_sld hx hb hX hbl hbA hS3 (inB_vp h182) dL_law_1151 ?_
                                                                            obtain ⟨y1152, hy1152, hm⟩ := bn hm
                                                                            refine cVWi (As := [.int (xs ((z18.1 + (1 : Int32))).toNatClampNeg)]) (rest := []) (Wn := fun (uu : SV × SV × SV) => wX5 q ad uu.1 ++ (wX3 q (ad 1) (z18.2.1 1) ++ (wX3 q (ad 2) (z18.2.1 2) ++ (wX3 q (ad 3) uu.2.1 ++ (wX3 q (ad 4) uu.2.2 ++ (wX0 q (ad 5) (z18.2.1 5) (ad 6 99) ++ (wX3 q (ad 6) (z18.2.1 6) ++ (wX1 q (ad 7) (z18.2.1 7) ++ (wX4 q (ad 8) (z18.2.1 8) (ad 1 99) (ad 7 99) ++ (wX2 q (ad 9) (z18.2.1 9) ++ (wX2 q (ad 10) (z18.2.1 10) ++ (wX2 q (ad 11) (z18.2.1 11) ++ (wX2 q (ad 12) (z18.2.1 12) ++ wX6 q a z18.2.2))))))))))))) X hP3 hD3 hS3 (fun _ h => h) hl2.1 (c_X5_keep l D q H3.size ad (z18.2.1 0) (z18.2.1 1) (z18.2.1 3) (z18.2.1 4) (xs ((z18.1 + (1 : Int32))).toNatClampNeg) y1152 hy1152) [0, 1, 2, 3, 4, 5, 6, 7, 8, 9, 10, 11, 12, 13, 14, 15, 16, 17, 30, 31, 32, 33, 34, 35, 36, 37, 38, 39, 40, 41, 42, 43, 44, 45, 46, 47, 48, 49, 50, 51, 52, 53] [18, 19, 20, 21, 22, 23, 24, 25, 26, 27, 28, 29, 54, 55, 56, 57, 58, 59, 60, 61, 62, 63, 64, 65, 66, 67, 68, 69, 70, 71, 72, 73, 74, 75, 76, 77, 78, 79, 80, 81, 82, 83, 84, 85, 86, 87, 88, 89, 90, 91, 92, 93, 94, 95, 96, 97, 98, 99, 100, 101, 102, 103] [62, 63, 64, 65, 66, 67, 68, 69, 70, 71, 72, 73, 74, 75, 76, 77, 78, 79, 0, 1, 2, 3, 4, 5, 6, 7, 8, 9, 10, 11, 80, 81, 82, 83, 84, 85, 86, 87, 88, 89, 90, 91, 92, 93, 94, 95, 96, 97, 98, 99, 100, 101, 102, 103, 12, 13, 14, 15, 16, 17, 18, 19, 20, 21, 22, 23, 24, 25, 26, 27, 28, 29, 30, 31, 32, 33, 34, 35, 36, 37, 38, 39, 40, 41, 42, 43, 44, 45, 46, 47, 48, 49, 50, 51, 52, 53, 54, 55, 56, 57, 58, 59, 60, 61] rfl (Wr := wX3 q (ad 2) (z18.2.1 2) ++ (wX0 q (ad 5) (z18.2.1 5) (ad 6 99) ++ (wX3 q (ad 6) (z18.2.1 6) ++ (wX1 q (ad 7) (z18.2.1 7) ++ (wX4 q (ad 8) (z18.2.1 8) (ad 1 99) (ad 7 99) ++ (wX2 q (ad 9) (z18.2.1 9) ++ (wX2 q (ad 10) (z18.2.1 10) ++ (wX2 q (ad 11) (z18.2.1 11) ++ (wX2 q (ad 12) (z18.2.1 12) ++ wX6 q a z18.2.2))))))))) rfl (by decide) (by decide) (by decide) (by decide) (fun _ => rfl) 0 rfl rfl rfl k_807 mX5_keep ⟨rfl, rfl⟩ ⟨Nat.le_of_ble_eq_true rfl, Nat.le_of_ble_eq_true rfl⟩ rfl rfl (Nat.le_of_ble_eq_true rfl) dL_law_1152 ⟨Nat.le_of_ble_eq_true rfl, Nat.le_of_ble_eq_true rfl⟩ (fun H183 locs183 hP hD hS183 => ?_)
                                                                            have hP183 : va_P D cls (wX5 q ad y1152.2.1 ++ (wX3 q (ad 1) (z18.2.1 1) ++ (wX3 q (ad 2) (z18.2.1 2) ++ (wX3 q (ad 3) y1152.2.2.1 ++ (wX3 q (ad 4) y1152.2.2.2 ++ (wX0 q (ad 5) (z18.2.1 5) (ad 6 99) ++ (wX3 q (ad 6) (z18.2.1 6) ++ (wX1 q (ad 7) (z18.2.1 7) ++ (wX4 q (ad 8) (z18.2.1 8) (ad 1 99) (ad 7 99) ++ (wX2 q (ad 9) (z18.2.1 9) ++ (wX2 q (ad 10) (z18.2.1 10) ++ (wX2 q (ad 11) (z18.2.1 11) ++ (wX2 q (ad 12) (z18.2.1 12) ++ wX6 q a z18.2.2))))))))))))) H183 := hP
                                                                            have hD183 : va_D (fun z : Nat => s.heap.size ≤ z) (wX5 q ad y1152.2.1 ++ (wX3 q (ad 1) (z18.2.1 1) ++ (wX3 q (ad 2) (z18.2.1 2) ++ (wX3 q (ad 3) y1152.2.2.1 ++ (wX3 q (ad 4) y1152.2.2.2 ++ (wX0 q (ad 5) (z18.2.1 5) (ad 6 99) ++ (wX3 q (ad 6) (z18.2.1 6) ++ (wX1 q (ad 7) (z18.2.1 7) ++ (wX4 q (ad 8) (z18.2.1 8) (ad 1 99) (ad 7 99) ++ (wX2 q (ad 9) (z18.2.1 9) ++ (wX2 q (ad 10) (z18.2.1 10) ++ (wX2 q (ad 11) (z18.2.1 11) ++ (wX2 q (ad 12) (z18.2.1 12) ++ wX6 q a z18.2.2))))))))))))) := hD
                                                                            clear hP hD hP3 hD3 hS3
                                                                            refine lv_aload_n hx hb dL_law_1155 rfl (lv_at hl2 0 rfl) ?_
                                                                            refine lv_aload_n hx hb dL_law_1156 rfl (lv_at hl2 2 rfl) ?_
                                                                            refine lv_iload_n hx hb dL_law_1157 rfl (lv_at hl2 3 rfl) ?_
                                                                            refine lv_iconst (v := (1 : Int32)) hx hb dL_law_1158 (by decide) ?_
                                                                            refine lv_iadd hx hb dL_law_1159 ?_
                                                                            obtain ⟨h184, hm⟩ := ckd hm
                                                                            refine va_sld hx hb hX hbl hbA hS183 (inB_vp h184) dL_law_1160 ?_
                                                                            obtain ⟨y1161, hy1161, hm⟩ := bn hm
                                                                            refine cVWi (As := [.int (xs ((z18.1 + (1 : Int32))).toNatClampNeg)]) (rest := [.int y1152.1]) (Wn := fun (uu : SV) => wX5 q ad y1152.2.1 ++ (wX3 q (ad 1) (z18.2.1 1) ++ (wX3 q (ad 2) (z18.2.1 2) ++ (wX3 q (ad 3) y1152.2.2.1 ++ (wX3 q (ad 4) y1152.2.2.2 ++ (wX0 q (ad 5) (z18.2.1 5) (ad 6 99) ++ (wX3 q (ad 6) (z18.2.1 6) ++ (wX1 q (ad 7) (z18.2.1 7) ++ (wX4 q (ad 8) (z18.2.1 8) (ad 1 99) (ad 7 99) ++ (wX2 q (ad 9) (z18.2.1 9) ++ (wX2 q (ad 10) (z18.2.1 10) ++ (wX2 q (ad 11) (z18.2.1 11) ++ (wX2 q (ad 12) (z18.2.1 12) ++ wX6 q a uu))))))))))))) X hP183 hD183 hS183 (fun _ h => h) hl2.1 (c_X6_keep l D q H183.size a z18.2.2 (xs ((z18.1 + (1 : Int32))).toNatClampNeg) y1161 hy1161) [86, 87, 88, 89, 90, 91, 92, 93, 94, 95, 96, 97, 98, 99, 100, 101, 102, 103] [0, 1, 2, 3, 4, 5, 6, 7, 8, 9, 10, 11, 12, 13, 14, 15, 16, 17, 18, 19, 20, 21, 22, 23, 24, 25, 26, 27, 28, 29, 30, 31, 32, 33, 34, 35, 36, 37, 38, 39, 40, 41, 42, 43, 44, 45, 46, 47, 48, 49, 50, 51, 52, 53, 54, 55, 56, 57, 58, 59, 60, 61, 62, 63, 64, 65, 66, 67, 68, 69, 70, 71, 72, 73, 74, 75, 76, 77, 78, 79, 80, 81, 82, 83, 84, 85] [0, 1, 2, 3, 4, 5, 6, 7, 8, 9, 10, 11, 12, 13, 14, 15, 16, 17, 18, 19, 20, 21, 22, 23, 24, 25, 26, 27, 28, 29, 30, 31, 32, 33, 34, 35, 36, 37, 38, 39, 40, 41, 42, 43, 44, 45, 46, 47, 48, 49, 50, 51, 52, 53, 54, 55, 56, 57, 58, 59, 60, 61, 62, 63, 64, 65, 66, 67, 68, 69, 70, 71, 72, 73, 74, 75, 76, 77, 78, 79, 80, 81, 82, 83, 84, 85, 86, 87, 88, 89, 90, 91, 92, 93, 94, 95, 96, 97, 98, 99, 100, 101, 102, 103] rfl (Wr := wX5 q ad y1152.2.1 ++ (wX3 q (ad 1) (z18.2.1 1) ++ (wX3 q (ad 2) (z18.2.1 2) ++ (wX3 q (ad 3) y1152.2.2.1 ++ (wX3 q (ad 4) y1152.2.2.2 ++ (wX0 q (ad 5) (z18.2.1 5) (ad 6 99) ++ (wX3 q (ad 6) (z18.2.1 6) ++ (wX1 q (ad 7) (z18.2.1 7) ++ (wX4 q (ad 8) (z18.2.1 8) (ad 1 99) (ad 7 99) ++ (wX2 q (ad 9) (z18.2.1 9) ++ (wX2 q (ad 10) (z18.2.1 10) ++ (wX2 q (ad 11) (z18.2.1 11) ++ wX2 q (ad 12) (z18.2.1 12))))))))))))) rfl (by decide) (by decide) (by decide) (by decide) (fun _ => rfl) 86 rfl rfl rfl k_1300 mX6_keep ⟨rfl, rfl⟩ ⟨Nat.le_of_ble_eq_true rfl, Nat.le_of_ble_eq_true rfl⟩ rfl rfl (Nat.le_of_ble_eq_true rfl) dL_law_1161 ⟨Nat.le_of_ble_eq_true rfl, Nat.le_of_ble_eq_true rfl⟩ (fun H185 locs185 hP hD hS185 => ?_)
                                                                            have hP185 : va_P D cls (wX5 q ad y1152.2.1 ++ (wX3 q (ad 1) (z18.2.1 1) ++ (wX3 q (ad 2) (z18.2.1 2) ++ (wX3 q (ad 3) y1152.2.2.1 ++ (wX3 q (ad 4) y1152.2.2.2 ++ (wX0 q (ad 5) (z18.2.1 5) (ad 6 99) ++ (wX3 q (ad 6) (z18.2.1 6) ++ (wX1 q (ad 7) (z18.2.1 7) ++ (wX4 q (ad 8) (z18.2.1 8) (ad 1 99) (ad 7 99) ++ (wX2 q (ad 9) (z18.2.1 9) ++ (wX2 q (ad 10) (z18.2.1 10) ++ (wX2 q (ad 11) (z18.2.1 11) ++ (wX2 q (ad 12) (z18.2.1 12) ++ wX6 q a y1161.2))))))))))))) H185 := hP
                                                                            have hD185 : va_D (fun z : Nat => s.heap.size ≤ z) (wX5 q ad y1152.2.1 ++ (wX3 q (ad 1) (z18.2.1 1) ++ (wX3 q (ad 2) (z18.2.1 2) ++ (wX3 q (ad 3) y1152.2.2.1 ++ (wX3 q (ad 4) y1152.2.2.2 ++ (wX0 q (ad 5) (z18.2.1 5) (ad 6 99) ++ (wX3 q (ad 6) (z18.2.1 6) ++ (wX1 q (ad 7) (z18.2.1 7) ++ (wX4 q (ad 8) (z18.2.1 8) (ad 1 99) (ad 7 99) ++ (wX2 q (ad 9) (z18.2.1 9) ++ (wX2 q (ad 10) (z18.2.1 10) ++ (wX2 q (ad 11) (z18.2.1 11) ++ (wX2 q (ad 12) (z18.2.1 12) ++ wX6 q a y1161.2))))))))))))) := hD
                                                                            clear hP hD hP183 hD183 hS183
                                                                            refine lv_icmp_eq (tgt := 1367) hx hb dL_law_1164 (by decide) (fun c1164 => ?_) (fun c1164 => ?_)
                                                                            · replace hm := tp hm c1164
                                                                              refine lv_iinc (v := (z18.1 + (5 : Int32))) (lv' := [(3, .int (z18.1 + (5 : Int32))), (2, .ref (a 99)), (1, .ref (ad 0 99)), (0, .ref b)]) hx hb dL_law_1367 hl2 (k := 3) rfl rfl (by decide) rfl (fun ls186 hl186 => ?_)
                                                                              clear hl2
                                                                              refine lv_goto (tgt := 18) hx hb dL_law_1370 (by decide) ?_
                                                                              cases hm
                                                                              exact ih18 ((z18.1 + (5 : Int32)), (mkG y1152.2.1 (z18.2.1 1) (z18.2.1 2) y1152.2.2.1 y1152.2.2.2 (z18.2.1 5) (z18.2.1 6) (z18.2.1 7) (z18.2.1 8) (z18.2.1 9) (z18.2.1 10) (z18.2.1 11) (z18.2.1 12)), y1161.2) ρ18 hz18 hK18 _ _ hP185 hD185 hS185 _ (lv_sub hl186 [1, 2, 3, 0] rfl)
                                                                            · replace hm := tn hm c1164
                                                                              refine lv_iconst (v := (0 : Int32)) hx hb dL_law_1167 (by decide) ?_
                                                                              cases hm
                                                                              cases hz18
                                                                              have hm : (some (0 : Int32) : Option Int32) = some (1 : Int32) := hK18
                                                                              exact absurd (Option.some.inj hm) (by decide)
                                                                          · replace hm := tn hm c32_33
                                                                            by_cases c32_34 : ((xs (z18.1).toNatClampNeg) &&& (63 : Int32)) = (34 : Int32)
                                                                            · replace hm := tp hm c32_34
                                                                              refine lv_tableIn (off := 1137) (tgt := 1169) hx hb dL_law_32 (by rw [c32_34]; decide) (by rw [c32_34]; decide) (by rw [c32_34]; rfl) (by decide) ?_
                                                                              refine lv_aload_n hx hb dL_law_1169 rfl (lv_at hl2 1 rfl) ?_
                                                                              refine lv_aload_n hx hb dL_law_1170 rfl (lv_at hl2 2 rfl) ?_
                                                                              refine lv_iload_n hx hb dL_law_1171 rfl (lv_at hl2 3 rfl) ?_
                                                                              refine lv_iconst (v := (1 : Int32)) hx hb dL_law_1172 (by decide) ?_
                                                                              refine lv_iadd hx hb dL_law_1173 ?_
                                                                              obtain ⟨h187, hm⟩ := ckd hm
                                                                              refine va_sld hx hb hX hbl hbA hS3 (inB_vp h187) dL_law_1174 ?_
                                                                              obtain ⟨y1175, hy1175, hm⟩ := bn hm
                                                                              refine cVWi (As := [.int (xs ((z18.1 + (1 : Int32))).toNatClampNeg)]) (rest := []) (Wn := fun (uu : SV) => wX5 q ad (z18.2.1 0) ++ (wX3 q (ad 1) uu ++ (wX3 q (ad 2) (z18.2.1 2) ++ (wX3 q (ad 3) (z18.2.1 3) ++ (wX3 q (ad 4) (z18.2.1 4) ++ (wX0 q (ad 5) (z18.2.1 5) (ad 6 99) ++ (wX3 q (ad 6) (z18.2.1 6) ++ (wX1 q (ad 7) (z18.2.1 7) ++ (wX4 q (ad 8) (z18.2.1 8) (ad 1 99) (ad 7 99) ++ (wX2 q (ad 9) (z18.2.1 9) ++ (wX2 q (ad 10) (z18.2.1 10) ++ (wX2 q (ad 11) (z18.2.1 11) ++ (wX2 q (ad 12) (z18.2.1 12) ++ wX6 q a z18.2.2))))))))))))) X hP3 hD3 hS3 (fun _ h => h) hl2.1 (c_X5_back l D q H3.size ad (z18.2.1 0) (z18.2.1 1) (z18.2.1 3) (z18.2.1 4) (xs ((z18.1 + (1 : Int32))).toNatClampNeg) y1175 hy1175) [0, 1, 2, 3, 4, 5, 6, 7, 8, 9, 10, 11, 12, 13, 14, 15, 16, 17, 30, 31, 32, 33, 34, 35, 36, 37, 38, 39, 40, 41, 42, 43, 44, 45, 46, 47, 48, 49, 50, 51, 52, 53] [18, 19, 20, 21, 22, 23, 24, 25, 26, 27, 28, 29, 54, 55, 56, 57, 58, 59, 60, 61, 62, 63, 64, 65, 66, 67, 68, 69, 70, 71, 72, 73, 74, 75, 76, 77, 78, 79, 80, 81, 82, 83, 84, 85, 86, 87, 88, 89, 90, 91, 92, 93, 94, 95, 96, 97, 98, 99, 100, 101, 102, 103] [62, 63, 64, 65, 66, 67, 68, 69, 70, 71, 72, 73, 74, 75, 76, 77, 78, 79, 0, 1, 2, 3, 4, 5, 6, 7, 8, 9, 10, 11, 80, 81, 82, 83, 84, 85, 86, 87, 88, 89, 90, 91, 92, 93, 94, 95, 96, 97, 98, 99, 100, 101, 102, 103, 12, 13, 14, 15, 16, 17, 18, 19, 20, 21, 22, 23, 24, 25, 26, 27, 28, 29, 30, 31, 32, 33, 34, 35, 36, 37, 38, 39, 40, 41, 42, 43, 44, 45, 46, 47, 48, 49, 50, 51, 52, 53, 54, 55, 56, 57, 58, 59, 60, 61] rfl (Wr := wX3 q (ad 2) (z18.2.1 2) ++ (wX0 q (ad 5) (z18.2.1 5) (ad 6 99) ++ (wX3 q (ad 6) (z18.2.1 6) ++ (wX1 q (ad 7) (z18.2.1 7) ++ (wX4 q (ad 8) (z18.2.1 8) (ad 1 99) (ad 7 99) ++ (wX2 q (ad 9) (z18.2.1 9) ++ (wX2 q (ad 10) (z18.2.1 10) ++ (wX2 q (ad 11) (z18.2.1 11) ++ (wX2 q (ad 12) (z18.2.1 12) ++ wX6 q a z18.2.2))))))))) rfl (by decide) (by decide) (by decide) (by decide) (fun _ => rfl) 0 rfl rfl rfl k_811 mX5_back ⟨rfl, rfl⟩ ⟨Nat.le_of_ble_eq_true rfl, Nat.le_of_ble_eq_true rfl⟩ rfl rfl (Nat.le_of_ble_eq_true rfl) dL_law_1175 ⟨Nat.le_of_ble_eq_true rfl, Nat.le_of_ble_eq_true rfl⟩ (fun H188 locs188 hP hD hS188 => ?_)
                                                                              have hP188 : va_P D cls (wX5 q ad (z18.2.1 0) ++ (wX3 q (ad 1) y1175.2 ++ (wX3 q (ad 2) (z18.2.1 2) ++ (wX3 q (ad 3) (z18.2.1 3) ++ (wX3 q (ad 4) (z18.2.1 4) ++ (wX0 q (ad 5) (z18.2.1 5) (ad 6 99) ++ (wX3 q (ad 6) (z18.2.1 6) ++ (wX1 q (ad 7) (z18.2.1 7) ++ (wX4 q (ad 8) (z18.2.1 8) (ad 1 99) (ad 7 99) ++ (wX2 q (ad 9) (z18.2.1 9) ++ (wX2 q (ad 10) (z18.2.1 10) ++ (wX2 q (ad 11) (z18.2.1 11) ++ (wX2 q (ad 12) (z18.2.1 12) ++ wX6 q a z18.2.2))))))))))))) H188 := hP
                                                                              have hD188 : va_D (fun z : Nat => s.heap.size ≤ z) (wX5 q ad (z18.2.1 0) ++ (wX3 q (ad 1) y1175.2 ++ (wX3 q (ad 2) (z18.2.1 2) ++ (wX3 q (ad 3) (z18.2.1 3) ++ (wX3 q (ad 4) (z18.2.1 4) ++ (wX0 q (ad 5) (z18.2.1 5) (ad 6 99) ++ (wX3 q (ad 6) (z18.2.1 6) ++ (wX1 q (ad 7) (z18.2.1 7) ++ (wX4 q (ad 8) (z18.2.1 8) (ad 1 99) (ad 7 99) ++ (wX2 q (ad 9) (z18.2.1 9) ++ (wX2 q (ad 10) (z18.2.1 10) ++ (wX2 q (ad 11) (z18.2.1 11) ++ (wX2 q (ad 12) (z18.2.1 12) ++ wX6 q a z18.2.2))))))))))))) := hD
                                                                              clear hP hD hP3 hD3 hS3
                                                                              refine lv_aload_n hx hb dL_law_1178 rfl (lv_at hl2 0 rfl) ?_
                                                                              refine lv_aload_n hx hb dL_law_1179 rfl (lv_at hl2 2 rfl) ?_
                                                                              refine lv_iload_n hx hb dL_law_1180 rfl (lv_at hl2 3 rfl) ?_
                                                                              refine lv_iconst (v := (1 : Int32)) hx hb dL_law_1181 (by decide) ?_
                                                                              refine lv_iadd hx hb dL_law_1182 ?_
                                                                              obtain ⟨h189, hm⟩ := ckd hm
                                                                              refine va_sld hx hb hX hbl hbA hS188 (inB_vp h189) dL_law_1183 ?_
                                                                              obtain ⟨y1184, hy1184, hm⟩ := bn hm
                                                                              refine cVWi (As := [.int (xs ((z18.1 + (1 : Int32))).toNatClampNeg)]) (rest := [.int y1175.1]) (Wn := fun (uu : SV) => wX5 q ad (z18.2.1 0) ++ (wX3 q (ad 1) y1175.2 ++ (wX3 q (ad 2) (z18.2.1 2) ++ (wX3 q (ad 3) (z18.2.1 3) ++ (wX3 q (ad 4) (z18.2.1 4) ++ (wX0 q (ad 5) (z18.2.1 5) (ad 6 99) ++ (wX3 q (ad 6) (z18.2.1 6) ++ (wX1 q (ad 7) (z18.2.1 7) ++ (wX4 q (ad 8) (z18.2.1 8) (ad 1 99) (ad 7 99) ++ (wX2 q (ad 9) (z18.2.1 9) ++ (wX2 q (ad 10) (z18.2.1 10) ++ (wX2 q (ad 11) (z18.2.1 11) ++ (wX2 q (ad 12) (z18.2.1 12) ++ wX6 q a uu))))))))))))) X hP188 hD188 hS188 (fun _ h => h) hl2.1 (c_X6_back l D q H188.size a z18.2.2 (xs ((z18.1 + (1 : Int32))).toNatClampNeg) y1184 hy1184) [86, 87, 88, 89, 90, 91, 92, 93, 94, 95, 96, 97, 98, 99, 100, 101, 102, 103] [0, 1, 2, 3, 4, 5, 6, 7, 8, 9, 10, 11, 12, 13, 14, 15, 16, 17, 18, 19, 20, 21, 22, 23, 24, 25, 26, 27, 28, 29, 30, 31, 32, 33, 34, 35, 36, 37, 38, 39, 40, 41, 42, 43, 44, 45, 46, 47, 48, 49, 50, 51, 52, 53, 54, 55, 56, 57, 58, 59, 60, 61, 62, 63, 64, 65, 66, 67, 68, 69, 70, 71, 72, 73, 74, 75, 76, 77, 78, 79, 80, 81, 82, 83, 84, 85] [0, 1, 2, 3, 4, 5, 6, 7, 8, 9, 10, 11, 12, 13, 14, 15, 16, 17, 18, 19, 20, 21, 22, 23, 24, 25, 26, 27, 28, 29, 30, 31, 32, 33, 34, 35, 36, 37, 38, 39, 40, 41, 42, 43, 44, 45, 46, 47, 48, 49, 50, 51, 52, 53, 54, 55, 56, 57, 58, 59, 60, 61, 62, 63, 64, 65, 66, 67, 68, 69, 70, 71, 72, 73, 74, 75, 76, 77, 78, 79, 80, 81, 82, 83, 84, 85, 86, 87, 88, 89, 90, 91, 92, 93, 94, 95, 96, 97, 98, 99, 100, 101, 102, 103] rfl (Wr := wX5 q ad (z18.2.1 0) ++ (wX3 q (ad 1) y1175.2 ++ (wX3 q (ad 2) (z18.2.1 2) ++ (wX3 q (ad 3) (z18.2.1 3) ++ (wX3 q (ad 4) (z18.2.1 4) ++ (wX0 q (ad 5) (z18.2.1 5) (ad 6 99) ++ (wX3 q (ad 6) (z18.2.1 6) ++ (wX1 q (ad 7) (z18.2.1 7) ++ (wX4 q (ad 8) (z18.2.1 8) (ad 1 99) (ad 7 99) ++ (wX2 q (ad 9) (z18.2.1 9) ++ (wX2 q (ad 10) (z18.2.1 10) ++ (wX2 q (ad 11) (z18.2.1 11) ++ wX2 q (ad 12) (z18.2.1 12))))))))))))) rfl (by decide) (by decide) (by decide) (by decide) (fun _ => rfl) 86 rfl rfl rfl k_1304 mX6_back ⟨rfl, rfl⟩ ⟨Nat.le_of_ble_eq_true rfl, Nat.le_of_ble_eq_true rfl⟩ rfl rfl (Nat.le_of_ble_eq_true rfl) dL_law_1184 ⟨Nat.le_of_ble_eq_true rfl, Nat.le_of_ble_eq_true rfl⟩ (fun H190 locs190 hP hD hS190 => ?_)
                                                                              have hP190 : va_P D cls (wX5 q ad (z18.2.1 0) ++ (wX3 q (ad 1) y1175.2 ++ (wX3 q (ad 2) (z18.2.1 2) ++ (wX3 q (ad 3) (z18.2.1 3) ++ (wX3 q (ad 4) (z18.2.1 4) ++ (wX0 q (ad 5) (z18.2.1 5) (ad 6 99) ++ (wX3 q (ad 6) (z18.2.1 6) ++ (wX1 q (ad 7) (z18.2.1 7) ++ (wX4 q (ad 8) (z18.2.1 8) (ad 1 99) (ad 7 99) ++ (wX2 q (ad 9) (z18.2.1 9) ++ (wX2 q (ad 10) (z18.2.1 10) ++ (wX2 q (ad 11) (z18.2.1 11) ++ (wX2 q (ad 12) (z18.2.1 12) ++ wX6 q a y1184.2))))))))))))) H190 := hP
                                                                              have hD190 : va_D (fun z : Nat => s.heap.size ≤ z) (wX5 q ad (z18.2.1 0) ++ (wX3 q (ad 1) y1175.2 ++ (wX3 q (ad 2) (z18.2.1 2) ++ (wX3 q (ad 3) (z18.2.1 3) ++ (wX3 q (ad 4) (z18.2.1 4) ++ (wX0 q (ad 5) (z18.2.1 5) (ad 6 99) ++ (wX3 q (ad 6) (z18.2.1 6) ++ (wX1 q (ad 7) (z18.2.1 7) ++ (wX4 q (ad 8) (z18.2.1 8) (ad 1 99) (ad 7 99) ++ (wX2 q (ad 9) (z18.2.1 9) ++ (wX2 q (ad 10) (z18.2.1 10) ++ (wX2 q (ad 11) (z18.2.1 11) ++ (wX2 q (ad 12) (z18.2.1 12) ++ wX6 q a y1184.2))))))))))))) := hD
                                                                              clear hP hD hP188 hD188 hS188
                                                                              refine lv_icmp_eq (tgt := 1367) hx hb dL_law_1187 (by decide) (fun c1187 => ?_) (fun c1187 => ?_)
                                                                              · replace hm := tp hm c1187
                                                                                refine lv_iinc (v := (z18.1 + (5 : Int32))) (lv' := [(3, .int (z18.1 + (5 : Int32))), (2, .ref (a 99)), (1, .ref (ad 0 99)), (0, .ref b)]) hx hb dL_law_1367 hl2 (k := 3) rfl rfl (by decide) rfl (fun ls191 hl191 => ?_)
                                                                                clear hl2
                                                                                refine lv_goto (tgt := 18) hx hb dL_law_1370 (by decide) ?_
                                                                                cases hm
                                                                                exact ih18 ((z18.1 + (5 : Int32)), (mkG (z18.2.1 0) y1175.2 (z18.2.1 2) (z18.2.1 3) (z18.2.1 4) (z18.2.1 5) (z18.2.1 6) (z18.2.1 7) (z18.2.1 8) (z18.2.1 9) (z18.2.1 10) (z18.2.1 11) (z18.2.1 12)), y1184.2) ρ18 hz18 hK18 _ _ hP190 hD190 hS190 _ (lv_sub hl191 [1, 2, 3, 0] rfl)
                                                                              · replace hm := tn hm c1187
                                                                                refine lv_iconst (v := (0 : Int32)) hx hb dL_law_1190 (by decide) ?_
                                                                                cases hm
                                                                                cases hz18
                                                                                have hm : (some (0 : Int32) : Option Int32) = some (1 : Int32) := hK18
                                                                                exact absurd (Option.some.inj hm) (by decide)
                                                                            · replace hm := tn hm c32_34
                                                                              by_cases c32_35 : ((xs (z18.1).toNatClampNeg) &&& (63 : Int32)) = (35 : Int32)
                                                                              · replace hm := tp hm c32_35
                                                                                refine lv_tableIn (off := 1160) (tgt := 1192) hx hb dL_law_32 (by rw [c32_35]; decide) (by rw [c32_35]; decide) (by rw [c32_35]; rfl) (by decide) ?_
                                                                                refine lv_aload_n hx hb dL_law_1192 rfl (lv_at hl2 1 rfl) ?_
                                                                                refine lv_aload_n hx hb dL_law_1193 rfl (lv_at hl2 2 rfl) ?_
                                                                                refine lv_iload_n hx hb dL_law_1194 rfl (lv_at hl2 3 rfl) ?_
                                                                                refine lv_iconst (v := (1 : Int32)) hx hb dL_law_1195 (by decide) ?_
                                                                                refine lv_iadd hx hb dL_law_1196 ?_
                                                                                obtain ⟨h192, hm⟩ := ckd hm
                                                                                refine va_sld hx hb hX hbl hbA hS3 (inB_vp h192) dL_law_1197 ?_
                                                                                refine lv_aload_n hx hb dL_law_1198 rfl (lv_at hl2 2 rfl) ?_
                                                                                refine lv_iload_n hx hb dL_law_1199 rfl (lv_at hl2 3 rfl) ?_
                                                                                refine lv_iconst (v := (2 : Int32)) hx hb dL_law_1200 (by decide) ?_
                                                                                refine lv_iadd hx hb dL_law_1201 ?_
                                                                                obtain ⟨h193, hm⟩ := ckd hm
                                                                                refine va_sld hx hb hX hbl hbA hS3 (inB_vp h193) dL_law_1202 ?_
                                                                                refine lv_aload_n hx hb dL_law_1203 rfl (lv_at hl2 2 rfl) ?_
                                                                                refine lv_iload_n hx hb dL_law_1204 rfl (lv_at hl2 3 rfl) ?_
                                                                                refine lv_iconst (v := (3 : Int32)) hx hb dL_law_1205 (by decide) ?_
                                                                                refine lv_iadd hx hb dL_law_1206 ?_
                                                                                obtain ⟨h194, hm⟩ := ckd hm
                                                                                refine va_sld hx hb hX hbl hbA hS3 (inB_vp h194) dL_law_1207 ?_
                                                                                obtain ⟨y1208, hy1208, hm⟩ := bn hm
                                                                                refine cVWi (As := [.int (xs ((z18.1 + (1 : Int32))).toNatClampNeg), .int (xs ((z18.1 + (2 : Int32))).toNatClampNeg), .int (xs ((z18.1 + (3 : Int32))).toNatClampNeg)]) (rest := []) (Wn := fun (uu : SV × SV × SV × SV) => wX5 q ad (z18.2.1 0) ++ (wX3 q (ad 1) (z18.2.1 1) ++ (wX3 q (ad 2) (z18.2.1 2) ++ (wX3 q (ad 3) (z18.2.1 3) ++ (wX3 q (ad 4) (z18.2.1 4) ++ (wX0 q (ad 5) (z18.2.1 5) (ad 6 99) ++ (wX3 q (ad 6) (z18.2.1 6) ++ (wX1 q (ad 7) (z18.2.1 7) ++ (wX4 q (ad 8) (z18.2.1 8) (ad 1 99) (ad 7 99) ++ (wX2 q (ad 9) uu.1 ++ (wX2 q (ad 10) uu.2.1 ++ (wX2 q (ad 11) uu.2.2.1 ++ (wX2 q (ad 12) uu.2.2.2 ++ wX6 q a z18.2.2))))))))))))) X hP3 hD3 hS3 (fun _ h => h) hl2.1 (c_X5_sheet l D q H3.size ad (z18.2.1 0) (z18.2.1 9) (z18.2.1 10) (z18.2.1 11) (z18.2.1 12) (xs ((z18.1 + (1 : Int32))).toNatClampNeg) (xs ((z18.1 + (2 : Int32))).toNatClampNeg) (xs ((z18.1 + (3 : Int32))).toNatClampNeg) y1208 hy1208) [0, 1, 2, 3, 4, 5, 78, 79, 80, 81, 82, 83, 84, 85] [6, 7, 8, 9, 10, 11, 12, 13, 14, 15, 16, 17, 18, 19, 20, 21, 22, 23, 24, 25, 26, 27, 28, 29, 30, 31, 32, 33, 34, 35, 36, 37, 38, 39, 40, 41, 42, 43, 44, 45, 46, 47, 48, 49, 50, 51, 52, 53, 54, 55, 56, 57, 58, 59, 60, 61, 62, 63, 64, 65, 66, 67, 68, 69, 70, 71, 72, 73, 74, 75, 76, 77, 86, 87, 88, 89, 90, 91, 92, 93, 94, 95, 96, 97, 98, 99, 100, 101, 102, 103] [90, 91, 92, 93, 94, 95, 0, 1, 2, 3, 4, 5, 6, 7, 8, 9, 10, 11, 12, 13, 14, 15, 16, 17, 18, 19, 20, 21, 22, 23, 24, 25, 26, 27, 28, 29, 30, 31, 32, 33, 34, 35, 36, 37, 38, 39, 40, 41, 42, 43, 44, 45, 46, 47, 48, 49, 50, 51, 52, 53, 54, 55, 56, 57, 58, 59, 60, 61, 62, 63, 64, 65, 66, 67, 68, 69, 70, 71, 96, 97, 98, 99, 100, 101, 102, 103, 72, 73, 74, 75, 76, 77, 78, 79, 80, 81, 82, 83, 84, 85, 86, 87, 88, 89] rfl (Wr := wX3 q (ad 1) (z18.2.1 1) ++ (wX3 q (ad 2) (z18.2.1 2) ++ (wX3 q (ad 3) (z18.2.1 3) ++ (wX3 q (ad 4) (z18.2.1 4) ++ (wX0 q (ad 5) (z18.2.1 5) (ad 6 99) ++ (wX3 q (ad 6) (z18.2.1 6) ++ (wX1 q (ad 7) (z18.2.1 7) ++ (wX4 q (ad 8) (z18.2.1 8) (ad 1 99) (ad 7 99) ++ wX6 q a z18.2.2)))))))) rfl (by decide) (by decide) (by decide) (by decide) (fun _ => rfl) 0 rfl rfl rfl k_815 mX5_sheet ⟨rfl, rfl⟩ ⟨Nat.le_of_ble_eq_true rfl, Nat.le_of_ble_eq_true rfl⟩ rfl rfl (Nat.le_of_ble_eq_true rfl) dL_law_1208 ⟨Nat.le_of_ble_eq_true rfl, Nat.le_of_ble_eq_true rfl⟩ (fun H195 locs195 hP hD hS195 => ?_)
                                                                                have hP195 : va_P D cls (wX5 q ad (z18.2.1 0) ++ (wX3 q (ad 1) (z18.2.1 1) ++ (wX3 q (ad 2) (z18.2.1 2) ++ (wX3 q (ad 3) (z18.2.1 3) ++ (wX3 q (ad 4) (z18.2.1 4) ++ (wX0 q (ad 5) (z18.2.1 5) (ad 6 99) ++ (wX3 q (ad 6) (z18.2.1 6) ++ (wX1 q (ad 7) (z18.2.1 7) ++ (wX4 q (ad 8) (z18.2.1 8) (ad 1 99) (ad 7 99) ++ (wX2 q (ad 9) y1208.2.1 ++ (wX2 q (ad 10) y1208.2.2.1 ++ (wX2 q (ad 11) y1208.2.2.2.1 ++ (wX2 q (ad 12) y1208.2.2.2.2 ++ wX6 q a z18.2.2))))))))))))) H195 := hP
                                                                                have hD195 : va_D (fun z : Nat => s.heap.size ≤ z) (wX5 q ad (z18.2.1 0) ++ (wX3 q (ad 1) (z18.2.1 1) ++ (wX3 q (ad 2) (z18.2.1 2) ++ (wX3 q (ad 3) (z18.2.1 3) ++ (wX3 q (ad 4) (z18.2.1 4) ++ (wX0 q (ad 5) (z18.2.1 5) (ad 6 99) ++ (wX3 q (ad 6) (z18.2.1 6) ++ (wX1 q (ad 7) (z18.2.1 7) ++ (wX4 q (ad 8) (z18.2.1 8) (ad 1 99) (ad 7 99) ++ (wX2 q (ad 9) y1208.2.1 ++ (wX2 q (ad 10) y1208.2.2.1 ++ (wX2 q (ad 11) y1208.2.2.2.1 ++ (wX2 q (ad 12) y1208.2.2.2.2 ++ wX6 q a z18.2.2))))))))))))) := hD
                                                                                clear hP hD hP3 hD3 hS3
                                                                                refine lv_aload_n hx hb dL_law_1211 rfl (lv_at hl2 0 rfl) ?_
                                                                                refine lv_aload_n hx hb dL_law_1212 rfl (lv_at hl2 2 rfl) ?_
                                                                                refine lv_iload_n hx hb dL_law_1213 rfl (lv_at hl2 3 rfl) ?_
                                                                                refine lv_iconst (v := (1 : Int32)) hx hb dL_law_1214 (by decide) ?_
                                                                                refine lv_iadd hx hb dL_law_1215 ?_
                                                                                obtain ⟨h196, hm⟩ := ckd hm
                                                                                refine va_sld hx hb hX hbl hbA hS195 (inB_vp h196) dL_law_1216 ?_
                                                                                refine lv_aload_n hx hb dL_law_1217 rfl (lv_at hl2 2 rfl) ?_
                                                                                refine lv_iload_n hx hb dL_law_1218 rfl (lv_at hl2 3 rfl) ?_
                                                                                refine lv_iconst (v := (2 : Int32)) hx hb dL_law_1219 (by decide) ?_
                                                                                refine lv_iadd hx hb dL_law_1220 ?_
                                                                                obtain ⟨h197, hm⟩ := ckd hm
                                                                                refine va_sld hx hb hX hbl hbA hS195 (inB_vp h197) dL_law_1221 ?_
                                                                                refine lv_aload_n hx hb dL_law_1222 rfl (lv_at hl2 2 rfl) ?_
                                                                                refine lv_iload_n hx hb dL_law_1223 rfl (lv_at hl2 3 rfl) ?_
                                                                                refine lv_iconst (v := (3 : Int32)) hx hb dL_law_1224 (by decide) ?_
                                                                                refine lv_iadd hx hb dL_law_1225 ?_
                                                                                obtain ⟨h198, hm⟩ := ckd hm
                                                                                refine va_sld hx hb hX hbl hbA hS195 (inB_vp h198) dL_law_1226 ?_
                                                                                obtain ⟨y1227, hy1227, hm⟩ := bn hm
                                                                                refine cVWi (As := [.int (xs ((z18.1 + (1 : Int32))).toNatClampNeg), .int (xs ((z18.1 + (2 : Int32))).toNatClampNeg), .int (xs ((z18.1 + (3 : Int32))).toNatClampNeg)]) (rest := [.int y1208.1]) (Wn := fun (uu : SV) => wX5 q ad (z18.2.1 0) ++ (wX3 q (ad 1) (z18.2.1 1) ++ (wX3 q (ad 2) (z18.2.1 2) ++ (wX3 q (ad 3) (z18.2.1 3) ++ (wX3 q (ad 4) (z18.2.1 4) ++ (wX0 q (ad 5) (z18.2.1 5) (ad 6 99) ++ (wX3 q (ad 6) (z18.2.1 6) ++ (wX1 q (ad 7) (z18.2.1 7) ++ (wX4 q (ad 8) (z18.2.1 8) (ad 1 99) (ad 7 99) ++ (wX2 q (ad 9) y1208.2.1 ++ (wX2 q (ad 10) y1208.2.2.1 ++ (wX2 q (ad 11) y1208.2.2.2.1 ++ (wX2 q (ad 12) y1208.2.2.2.2 ++ wX6 q a uu))))))))))))) X hP195 hD195 hS195 (fun _ h => h) hl2.1 (c_X6_sheet l D q H195.size a z18.2.2 (xs ((z18.1 + (1 : Int32))).toNatClampNeg) (xs ((z18.1 + (2 : Int32))).toNatClampNeg) (xs ((z18.1 + (3 : Int32))).toNatClampNeg) y1227 hy1227) [86, 87, 88, 89, 90, 91, 92, 93, 94, 95, 96, 97, 98, 99, 100, 101, 102, 103] [0, 1, 2, 3, 4, 5, 6, 7, 8, 9, 10, 11, 12, 13, 14, 15, 16, 17, 18, 19, 20, 21, 22, 23, 24, 25, 26, 27, 28, 29, 30, 31, 32, 33, 34, 35, 36, 37, 38, 39, 40, 41, 42, 43, 44, 45, 46, 47, 48, 49, 50, 51, 52, 53, 54, 55, 56, 57, 58, 59, 60, 61, 62, 63, 64, 65, 66, 67, 68, 69, 70, 71, 72, 73, 74, 75, 76, 77, 78, 79, 80, 81, 82, 83, 84, 85] [0, 1, 2, 3, 4, 5, 6, 7, 8, 9, 10, 11, 12, 13, 14, 15, 16, 17, 18, 19, 20, 21, 22, 23, 24, 25, 26, 27, 28, 29, 30, 31, 32, 33, 34, 35, 36, 37, 38, 39, 40, 41, 42, 43, 44, 45, 46, 47, 48, 49, 50, 51, 52, 53, 54, 55, 56, 57, 58, 59, 60, 61, 62, 63, 64, 65, 66, 67, 68, 69, 70, 71, 72, 73, 74, 75, 76, 77, 78, 79, 80, 81, 82, 83, 84, 85, 86, 87, 88, 89, 90, 91, 92, 93, 94, 95, 96, 97, 98, 99, 100, 101, 102, 103] rfl (Wr := wX5 q ad (z18.2.1 0) ++ (wX3 q (ad 1) (z18.2.1 1) ++ (wX3 q (ad 2) (z18.2.1 2) ++ (wX3 q (ad 3) (z18.2.1 3) ++ (wX3 q (ad 4) (z18.2.1 4) ++ (wX0 q (ad 5) (z18.2.1 5) (ad 6 99) ++ (wX3 q (ad 6) (z18.2.1 6) ++ (wX1 q (ad 7) (z18.2.1 7) ++ (wX4 q (ad 8) (z18.2.1 8) (ad 1 99) (ad 7 99) ++ (wX2 q (ad 9) y1208.2.1 ++ (wX2 q (ad 10) y1208.2.2.1 ++ (wX2 q (ad 11) y1208.2.2.2.1 ++ wX2 q (ad 12) y1208.2.2.2.2)))))))))))) rfl (by decide) (by decide) (by decide) (by decide) (fun _ => rfl) 86 rfl rfl rfl k_1308 mX6_sheet ⟨rfl, rfl⟩ ⟨Nat.le_of_ble_eq_true rfl, Nat.le_of_ble_eq_true rfl⟩ rfl rfl (Nat.le_of_ble_eq_true rfl) dL_law_1227 ⟨Nat.le_of_ble_eq_true rfl, Nat.le_of_ble_eq_true rfl⟩ (fun H199 locs199 hP hD hS199 => ?_)
                                                                                have hP199 : va_P D cls (wX5 q ad (z18.2.1 0) ++ (wX3 q (ad 1) (z18.2.1 1) ++ (wX3 q (ad 2) (z18.2.1 2) ++ (wX3 q (ad 3) (z18.2.1 3) ++ (wX3 q (ad 4) (z18.2.1 4) ++ (wX0 q (ad 5) (z18.2.1 5) (ad 6 99) ++ (wX3 q (ad 6) (z18.2.1 6) ++ (wX1 q (ad 7) (z18.2.1 7) ++ (wX4 q (ad 8) (z18.2.1 8) (ad 1 99) (ad 7 99) ++ (wX2 q (ad 9) y1208.2.1 ++ (wX2 q (ad 10) y1208.2.2.1 ++ (wX2 q (ad 11) y1208.2.2.2.1 ++ (wX2 q (ad 12) y1208.2.2.2.2 ++ wX6 q a y1227.2))))))))))))) H199 := hP
                                                                                have hD199 : va_D (fun z : Nat => s.heap.size ≤ z) (wX5 q ad (z18.2.1 0) ++ (wX3 q (ad 1) (z18.2.1 1) ++ (wX3 q (ad 2) (z18.2.1 2) ++ (wX3 q (ad 3) (z18.2.1 3) ++ (wX3 q (ad 4) (z18.2.1 4) ++ (wX0 q (ad 5) (z18.2.1 5) (ad 6 99) ++ (wX3 q (ad 6) (z18.2.1 6) ++ (wX1 q (ad 7) (z18.2.1 7) ++ (wX4 q (ad 8) (z18.2.1 8) (ad 1 99) (ad 7 99) ++ (wX2 q (ad 9) y1208.2.1 ++ (wX2 q (ad 10) y1208.2.2.1 ++ (wX2 q (ad 11) y1208.2.2.2.1 ++ (wX2 q (ad 12) y1208.2.2.2.2 ++ wX6 q a y1227.2))))))))))))) := hD
                                                                                clear hP hD hP195 hD195 hS195
                                                                                refine lv_icmp_eq (tgt := 1367) hx hb dL_law_1230 (by decide) (fun c1230 => ?_) (fun c1230 => ?_)
                                                                                · replace hm := tp hm c1230
                                                                                  refine lv_iinc (v := (z18.1 + (5 : Int32))) (lv' := [(3, .int (z18.1 + (5 : Int32))), (2, .ref (a 99)), (1, .ref (ad 0 99)), (0, .ref b)]) hx hb dL_law_1367 hl2 (k := 3) rfl rfl (by decide) rfl (fun ls200 hl200 => ?_)
                                                                                  clear hl2
                                                                                  refine lv_goto (tgt := 18) hx hb dL_law_1370 (by decide) ?_
                                                                                  cases hm
                                                                                  exact ih18 ((z18.1 + (5 : Int32)), (mkG (z18.2.1 0) (z18.2.1 1) (z18.2.1 2) (z18.2.1 3) (z18.2.1 4) (z18.2.1 5) (z18.2.1 6) (z18.2.1 7) (z18.2.1 8) y1208.2.1 y1208.2.2.1 y1208.2.2.2.1 y1208.2.2.2.2), y1227.2) ρ18 hz18 hK18 _ _ hP199 hD199 hS199 _ (lv_sub hl200 [1, 2, 3, 0] rfl)
                                                                                · replace hm := tn hm c1230
                                                                                  refine lv_iconst (v := (0 : Int32)) hx hb dL_law_1233 (by decide) ?_
                                                                                  cases hm
                                                                                  cases hz18
                                                                                  have hm : (some (0 : Int32) : Option Int32) = some (1 : Int32) := hK18
                                                                                  exact absurd (Option.some.inj hm) (by decide)
                                                                              · replace hm := tn hm c32_35
                                                                                by_cases c32_36 : ((xs (z18.1).toNatClampNeg) &&& (63 : Int32)) = (36 : Int32)
                                                                                · replace hm := tp hm c32_36
                                                                                  refine lv_tableIn (off := 1203) (tgt := 1235) hx hb dL_law_32 (by rw [c32_36]; decide) (by rw [c32_36]; decide) (by rw [c32_36]; rfl) (by decide) ?_
                                                                                  refine lv_aload_n hx hb dL_law_1235 rfl (lv_at hl2 1 rfl) ?_
                                                                                  refine lv_aload_n hx hb dL_law_1236 rfl (lv_at hl2 2 rfl) ?_
                                                                                  refine lv_iload_n hx hb dL_law_1237 rfl (lv_at hl2 3 rfl) ?_
                                                                                  refine lv_iconst (v := (1 : Int32)) hx hb dL_law_1238 (by decide) ?_
                                                                                  refine lv_iadd hx hb dL_law_1239 ?_
                                                                                  obtain ⟨h201, hm⟩ := ckd hm
                                                                                  refine va_sld hx hb hX hbl hbA hS3 (inB_vp h201) dL_law_1240 ?_
                                                                                  refine lv_aload_n hx hb dL_law_1241 rfl (lv_at hl2 2 rfl) ?_
                                                                                  refine lv_iload_n hx hb dL_law_1242 rfl (lv_at hl2 3 rfl) ?_
                                                                                  refine lv_iconst (v := (2 : Int32)) hx hb dL_law_1243 (by decide) ?_
                                                                                  refine lv_iadd hx hb dL_law_1244 ?_
                                                                                  obtain ⟨h202, hm⟩ := ckd hm
                                                                                  refine va_sld hx hb hX hbl hbA hS3 (inB_vp h202) dL_law_1245 ?_
                                                                                  refine lv_aload_n hx hb dL_law_1246 rfl (lv_at hl2 2 rfl) ?_
                                                                                  refine lv_iload_n hx hb dL_law_1247 rfl (lv_at hl2 3 rfl) ?_
                                                                                  refine lv_iconst (v := (3 : Int32)) hx hb dL_law_1248 (by decide) ?_
                                                                                  refine lv_iadd hx hb dL_law_1249 ?_
                                                                                  obtain ⟨h203, hm⟩ := ckd hm
                                                                                  refine va_sld hx hb hX hbl hbA hS3 (inB_vp h203) dL_law_1250 ?_
                                                                                  obtain ⟨y1251, hy1251, hm⟩ := bn hm
                                                                                  refine cVWi (As := [.int (xs ((z18.1 + (1 : Int32))).toNatClampNeg), .int (xs ((z18.1 + (2 : Int32))).toNatClampNeg), .int (xs ((z18.1 + (3 : Int32))).toNatClampNeg)]) (rest := []) (Wn := fun (uu : SV × SV × SV × SV) => wX5 q ad (z18.2.1 0) ++ (wX3 q (ad 1) (z18.2.1 1) ++ (wX3 q (ad 2) (z18.2.1 2) ++ (wX3 q (ad 3) (z18.2.1 3) ++ (wX3 q (ad 4) (z18.2.1 4) ++ (wX0 q (ad 5) (z18.2.1 5) (ad 6 99) ++ (wX3 q (ad 6) (z18.2.1 6) ++ (wX1 q (ad 7) (z18.2.1 7) ++ (wX4 q (ad 8) (z18.2.1 8) (ad 1 99) (ad 7 99) ++ (wX2 q (ad 9) uu.1 ++ (wX2 q (ad 10) uu.2.1 ++ (wX2 q (ad 11) uu.2.2.1 ++ (wX2 q (ad 12) uu.2.2.2 ++ wX6 q a z18.2.2))))))))))))) X hP3 hD3 hS3 (fun _ h => h) hl2.1 (c_X5_lay l D q H3.size ad (z18.2.1 0) (z18.2.1 9) (z18.2.1 10) (z18.2.1 11) (z18.2.1 12) (xs ((z18.1 + (1 : Int32))).toNatClampNeg) (xs ((z18.1 + (2 : Int32))).toNatClampNeg) (xs ((z18.1 + (3 : Int32))).toNatClampNeg) y1251 hy1251) [0, 1, 2, 3, 4, 5, 78, 79, 80, 81, 82, 83, 84, 85] [6, 7, 8, 9, 10, 11, 12, 13, 14, 15, 16, 17, 18, 19, 20, 21, 22, 23, 24, 25, 26, 27, 28, 29, 30, 31, 32, 33, 34, 35, 36, 37, 38, 39, 40, 41, 42, 43, 44, 45, 46, 47, 48, 49, 50, 51, 52, 53, 54, 55, 56, 57, 58, 59, 60, 61, 62, 63, 64, 65, 66, 67, 68, 69, 70, 71, 72, 73, 74, 75, 76, 77, 86, 87, 88, 89, 90, 91, 92, 93, 94, 95, 96, 97, 98, 99, 100, 101, 102, 103] [90, 91, 92, 93, 94, 95, 0, 1, 2, 3, 4, 5, 6, 7, 8, 9, 10, 11, 12, 13, 14, 15, 16, 17, 18, 19, 20, 21, 22, 23, 24, 25, 26, 27, 28, 29, 30, 31, 32, 33, 34, 35, 36, 37, 38, 39, 40, 41, 42, 43, 44, 45, 46, 47, 48, 49, 50, 51, 52, 53, 54, 55, 56, 57, 58, 59, 60, 61, 62, 63, 64, 65, 66, 67, 68, 69, 70, 71, 96, 97, 98, 99, 100, 101, 102, 103, 72, 73, 74, 75, 76, 77, 78, 79, 80, 81, 82, 83, 84, 85, 86, 87, 88, 89] rfl (Wr := wX3 q (ad 1) (z18.2.1 1) ++ (wX3 q (ad 2) (z18.2.1 2) ++ (wX3 q (ad 3) (z18.2.1 3) ++ (wX3 q (ad 4) (z18.2.1 4) ++ (wX0 q (ad 5) (z18.2.1 5) (ad 6 99) ++ (wX3 q (ad 6) (z18.2.1 6) ++ (wX1 q (ad 7) (z18.2.1 7) ++ (wX4 q (ad 8) (z18.2.1 8) (ad 1 99) (ad 7 99) ++ wX6 q a z18.2.2)))))))) rfl (by decide) (by decide) (by decide) (by decide) (fun _ => rfl) 0 rfl rfl rfl k_824 mX5_lay ⟨rfl, rfl⟩ ⟨Nat.le_of_ble_eq_true rfl, Nat.le_of_ble_eq_true rfl⟩ rfl rfl (Nat.le_of_ble_eq_true rfl) dL_law_1251 ⟨Nat.le_of_ble_eq_true rfl, Nat.le_of_ble_eq_true rfl⟩ (fun H204 locs204 hP hD hS204 => ?_)
                                                                                  have hP204 : va_P D cls (wX5 q ad (z18.2.1 0) ++ (wX3 q (ad 1) (z18.2.1 1) ++ (wX3 q (ad 2) (z18.2.1 2) ++ (wX3 q (ad 3) (z18.2.1 3) ++ (wX3 q (ad 4) (z18.2.1 4) ++ (wX0 q (ad 5) (z18.2.1 5) (ad 6 99) ++ (wX3 q (ad 6) (z18.2.1 6) ++ (wX1 q (ad 7) (z18.2.1 7) ++ (wX4 q (ad 8) (z18.2.1 8) (ad 1 99) (ad 7 99) ++ (wX2 q (ad 9) y1251.2.1 ++ (wX2 q (ad 10) y1251.2.2.1 ++ (wX2 q (ad 11) y1251.2.2.2.1 ++ (wX2 q (ad 12) y1251.2.2.2.2 ++ wX6 q a z18.2.2))))))))))))) H204 := hP
                                                                                  have hD204 : va_D (fun z : Nat => s.heap.size ≤ z) (wX5 q ad (z18.2.1 0) ++ (wX3 q (ad 1) (z18.2.1 1) ++ (wX3 q (ad 2) (z18.2.1 2) ++ (wX3 q (ad 3) (z18.2.1 3) ++ (wX3 q (ad 4) (z18.2.1 4) ++ (wX0 q (ad 5) (z18.2.1 5) (ad 6 99) ++ (wX3 q (ad 6) (z18.2.1 6) ++ (wX1 q (ad 7) (z18.2.1 7) ++ (wX4 q (ad 8) (z18.2.1 8) (ad 1 99) (ad 7 99) ++ (wX2 q (ad 9) y1251.2.1 ++ (wX2 q (ad 10) y1251.2.2.1 ++ (wX2 q (ad 11) y1251.2.2.2.1 ++ (wX2 q (ad 12) y1251.2.2.2.2 ++ wX6 q a z18.2.2))))))))))))) := hD
                                                                                  clear hP hD hP3 hD3 hS3
                                                                                  refine lv_aload_n hx hb dL_law_1254 rfl (lv_at hl2 0 rfl) ?_
                                                                                  refine lv_aload_n hx hb dL_law_1255 rfl (lv_at hl2 2 rfl) ?_
                                                                                  refine lv_iload_n hx hb dL_law_1256 rfl (lv_at hl2 3 rfl) ?_
                                                                                  refine lv_iconst (v := (1 : Int32)) hx hb dL_law_1257 (by decide) ?_
                                                                                  refine lv_iadd hx hb dL_law_1258 ?_
                                                                                  obtain ⟨h205, hm⟩ := ckd hm
                                                                                  refine va_sld hx hb hX hbl hbA hS204 (inB_vp h205) dL_law_1259 ?_
                                                                                  refine lv_aload_n hx hb dL_law_1260 rfl (lv_at hl2 2 rfl) ?_
                                                                                  refine lv_iload_n hx hb dL_law_1261 rfl (lv_at hl2 3 rfl) ?_
                                                                                  refine lv_iconst (v := (2 : Int32)) hx hb dL_law_1262 (by decide) ?_
                                                                                  refine lv_iadd hx hb dL_law_1263 ?_
                                                                                  obtain ⟨h206, hm⟩ := ckd hm
                                                                                  refine va_sld hx hb hX hbl hbA hS204 (inB_vp h206) dL_law_1264 ?_
                                                                                  refine lv_aload_n hx hb dL_law_1265 rfl (lv_at hl2 2 rfl) ?_
                                                                                  refine lv_iload_n hx hb dL_law_1266 rfl (lv_at hl2 3 rfl) ?_
                                                                                  refine lv_iconst (v := (3 : Int32)) hx hb dL_law_1267 (by decide) ?_
                                                                                  refine lv_iadd hx hb dL_law_1268 ?_
                                                                                  obtain ⟨h207, hm⟩ := ckd hm
                                                                                  refine va_sld hx hb hX hbl hbA hS204 (inB_vp h207) dL_law_1269 ?_
                                                                                  obtain ⟨y1270, hy1270, hm⟩ := bn hm
                                                                                  refine cVWi (As := [.int (xs ((z18.1 + (1 : Int32))).toNatClampNeg), .int (xs ((z18.1 + (2 : Int32))).toNatClampNeg), .int (xs ((z18.1 + (3 : Int32))).toNatClampNeg)]) (rest := [.int y1251.1]) (Wn := fun (uu : SV) => wX5 q ad (z18.2.1 0) ++ (wX3 q (ad 1) (z18.2.1 1) ++ (wX3 q (ad 2) (z18.2.1 2) ++ (wX3 q (ad 3) (z18.2.1 3) ++ (wX3 q (ad 4) (z18.2.1 4) ++ (wX0 q (ad 5) (z18.2.1 5) (ad 6 99) ++ (wX3 q (ad 6) (z18.2.1 6) ++ (wX1 q (ad 7) (z18.2.1 7) ++ (wX4 q (ad 8) (z18.2.1 8) (ad 1 99) (ad 7 99) ++ (wX2 q (ad 9) y1251.2.1 ++ (wX2 q (ad 10) y1251.2.2.1 ++ (wX2 q (ad 11) y1251.2.2.2.1 ++ (wX2 q (ad 12) y1251.2.2.2.2 ++ wX6 q a uu))))))))))))) X hP204 hD204 hS204 (fun _ h => h) hl2.1 (c_X6_lay l D q H204.size a z18.2.2 (xs ((z18.1 + (1 : Int32))).toNatClampNeg) (xs ((z18.1 + (2 : Int32))).toNatClampNeg) (xs ((z18.1 + (3 : Int32))).toNatClampNeg) y1270 hy1270) [86, 87, 88, 89, 90, 91, 92, 93, 94, 95, 96, 97, 98, 99, 100, 101, 102, 103] [0, 1, 2, 3, 4, 5, 6, 7, 8, 9, 10, 11, 12, 13, 14, 15, 16, 17, 18, 19, 20, 21, 22, 23, 24, 25, 26, 27, 28, 29, 30, 31, 32, 33, 34, 35, 36, 37, 38, 39, 40, 41, 42, 43, 44, 45, 46, 47, 48, 49, 50, 51, 52, 53, 54, 55, 56, 57, 58, 59, 60, 61, 62, 63, 64, 65, 66, 67, 68, 69, 70, 71, 72, 73, 74, 75, 76, 77, 78, 79, 80, 81, 82, 83, 84, 85] [0, 1, 2, 3, 4, 5, 6, 7, 8, 9, 10, 11, 12, 13, 14, 15, 16, 17, 18, 19, 20, 21, 22, 23, 24, 25, 26, 27, 28, 29, 30, 31, 32, 33, 34, 35, 36, 37, 38, 39, 40, 41, 42, 43, 44, 45, 46, 47, 48, 49, 50, 51, 52, 53, 54, 55, 56, 57, 58, 59, 60, 61, 62, 63, 64, 65, 66, 67, 68, 69, 70, 71, 72, 73, 74, 75, 76, 77, 78, 79, 80, 81, 82, 83, 84, 85, 86, 87, 88, 89, 90, 91, 92, 93, 94, 95, 96, 97, 98, 99, 100, 101, 102, 103] rfl (Wr := wX5 q ad (z18.2.1 0) ++ (wX3 q (ad 1) (z18.2.1 1) ++ (wX3 q (ad 2) (z18.2.1 2) ++ (wX3 q (ad 3) (z18.2.1 3) ++ (wX3 q (ad 4) (z18.2.1 4) ++ (wX0 q (ad 5) (z18.2.1 5) (ad 6 99) ++ (wX3 q (ad 6) (z18.2.1 6) ++ (wX1 q (ad 7) (z18.2.1 7) ++ (wX4 q (ad 8) (z18.2.1 8) (ad 1 99) (ad 7 99) ++ (wX2 q (ad 9) y1251.2.1 ++ (wX2 q (ad 10) y1251.2.2.1 ++ (wX2 q (ad 11) y1251.2.2.2.1 ++ wX2 q (ad 12) y1251.2.2.2.2)))))))))))) rfl (by decide) (by decide) (by decide) (by decide) (fun _ => rfl) 86 rfl rfl rfl k_1312 mX6_lay ⟨rfl, rfl⟩ ⟨Nat.le_of_ble_eq_true rfl, Nat.le_of_ble_eq_true rfl⟩ rfl rfl (Nat.le_of_ble_eq_true rfl) dL_law_1270 ⟨Nat.le_of_ble_eq_true rfl, Nat.le_of_ble_eq_true rfl⟩ (fun H208 locs208 hP hD hS208 => ?_)
                                                                                  have hP208 : va_P D cls (wX5 q ad (z18.2.1 0) ++ (wX3 q (ad 1) (z18.2.1 1) ++ (wX3 q (ad 2) (z18.2.1 2) ++ (wX3 q (ad 3) (z18.2.1 3) ++ (wX3 q (ad 4) (z18.2.1 4) ++ (wX0 q (ad 5) (z18.2.1 5) (ad 6 99) ++ (wX3 q (ad 6) (z18.2.1 6) ++ (wX1 q (ad 7) (z18.2.1 7) ++ (wX4 q (ad 8) (z18.2.1 8) (ad 1 99) (ad 7 99) ++ (wX2 q (ad 9) y1251.2.1 ++ (wX2 q (ad 10) y1251.2.2.1 ++ (wX2 q (ad 11) y1251.2.2.2.1 ++ (wX2 q (ad 12) y1251.2.2.2.2 ++ wX6 q a y1270.2))))))))))))) H208 := hP
                                                                                  have hD208 : va_D (fun z : Nat => s.heap.size ≤ z) (wX5 q ad (z18.2.1 0) ++ (wX3 q (ad 1) (z18.2.1 1) ++ (wX3 q (ad 2) (z18.2.1 2) ++ (wX3 q (ad 3) (z18.2.1 3) ++ (wX3 q (ad 4) (z18.2.1 4) ++ (wX0 q (ad 5) (z18.2.1 5) (ad 6 99) ++ (wX3 q (ad 6) (z18.2.1 6) ++ (wX1 q (ad 7) (z18.2.1 7) ++ (wX4 q (ad 8) (z18.2.1 8) (ad 1 99) (ad 7 99) ++ (wX2 q (ad 9) y1251.2.1 ++ (wX2 q (ad 10) y1251.2.2.1 ++ (wX2 q (ad 11) y1251.2.2.2.1 ++ (wX2 q (ad 12) y1251.2.2.2.2 ++ wX6 q a y1270.2))))))))))))) := hD
                                                                                  clear hP hD hP204 hD204 hS204
                                                                                  refine lv_icmp_eq (tgt := 1367) hx hb dL_law_1273 (by decide) (fun c1273 => ?_) (fun c1273 => ?_)
                                                                                  · replace hm := tp hm c1273
                                                                                    refine lv_iinc (v := (z18.1 + (5 : Int32))) (lv' := [(3, .int (z18.1 + (5 : Int32))), (2, .ref (a 99)), (1, .ref (ad 0 99)), (0, .ref b)]) hx hb dL_law_1367 hl2 (k := 3) rfl rfl (by decide) rfl (fun ls209 hl209 => ?_)
                                                                                    clear hl2
                                                                                    refine lv_goto (tgt := 18) hx hb dL_law_1370 (by decide) ?_
                                                                                    cases hm
                                                                                    exact ih18 ((z18.1 + (5 : Int32)), (mkG (z18.2.1 0) (z18.2.1 1) (z18.2.1 2) (z18.2.1 3) (z18.2.1 4) (z18.2.1 5) (z18.2.1 6) (z18.2.1 7) (z18.2.1 8) y1251.2.1 y1251.2.2.1 y1251.2.2.2.1 y1251.2.2.2.2), y1270.2) ρ18 hz18 hK18 _ _ hP208 hD208 hS208 _ (lv_sub hl209 [1, 2, 3, 0] rfl)
                                                                                  · replace hm := tn hm c1273
                                                                                    refine lv_iconst (v := (0 : Int32)) hx hb dL_law_1276 (by decide) ?_
                                                                                    cases hm
                                                                                    cases hz18
                                                                                    have hm : (some (0 : Int32) : Option Int32) = some (1 : Int32) := hK18
                                                                                    exact absurd (Option.some.inj hm) (by decide)
                                                                                · replace hm := tn hm c32_36
                                                                                  by_cases c32_37 : ((xs (z18.1).toNatClampNeg) &&& (63 : Int32)) = (37 : Int32)
                                                                                  · replace hm := tp hm c32_37
                                                                                    refine lv_tableIn (off := 1246) (tgt := 1278) hx hb dL_law_32 (by rw [c32_37]; decide) (by rw [c32_37]; decide) (by rw [c32_37]; rfl) (by decide) ?_
                                                                                    refine lv_aload_n hx hb dL_law_1278 rfl (lv_at hl2 1 rfl) ?_
                                                                                    refine lv_aload_n hx hb dL_law_1279 rfl (lv_at hl2 2 rfl) ?_
                                                                                    refine lv_iload_n hx hb dL_law_1280 rfl (lv_at hl2 3 rfl) ?_
                                                                                    refine lv_iconst (v := (1 : Int32)) hx hb dL_law_1281 (by decide) ?_
                                                                                    refine lv_iadd hx hb dL_law_1282 ?_
                                                                                    obtain ⟨h210, hm⟩ := ckd hm
                                                                                    refine va_sld hx hb hX hbl hbA hS3 (inB_vp h210) dL_law_1283 ?_
                                                                                    refine lv_aload_n hx hb dL_law_1284 rfl (lv_at hl2 2 rfl) ?_
                                                                                    refine lv_iload_n hx hb dL_law_1285 rfl (lv_at hl2 3 rfl) ?_
                                                                                    refine lv_iconst (v := (2 : Int32)) hx hb dL_law_1286 (by decide) ?_
                                                                                    refine lv_iadd hx hb dL_law_1287 ?_
                                                                                    obtain ⟨h211, hm⟩ := ckd hm
                                                                                    refine va_sld hx hb hX hbl hbA hS3 (inB_vp h211) dL_law_1288 ?_
                                                                                    refine lv_aload_n hx hb dL_law_1289 rfl (lv_at hl2 2 rfl) ?_
                                                                                    refine lv_iload_n hx hb dL_law_1290 rfl (lv_at hl2 3 rfl) ?_
                                                                                    refine lv_iconst (v := (3 : Int32)) hx hb dL_law_1291 (by decide) ?_
                                                                                    refine lv_iadd hx hb dL_law_1292 ?_
                                                                                    obtain ⟨h212, hm⟩ := ckd hm
                                                                                    refine va_sld hx hb hX hbl hbA hS3 (inB_vp h212) dL_law_1293 ?_
                                                                                    refine lv_aload_n hx hb dL_law_1294 rfl (lv_at hl2 2 rfl) ?_
                                                                                    refine lv_iload_n hx hb dL_law_1295 rfl (lv_at hl2 3 rfl) ?_
                                                                                    refine lv_iconst (v := (4 : Int32)) hx hb dL_law_1296 (by decide) ?_
                                                                                    refine lv_iadd hx hb dL_law_1297 ?_
                                                                                    obtain ⟨h213, hm⟩ := ckd hm
                                                                                    refine va_sld hx hb hX hbl hbA hS3 (inB_vp h213) dL_law_1298 ?_
                                                                                    obtain ⟨y1299, hy1299, hm⟩ := bn hm
                                                                                    refine cVWi (As := [.int (xs ((z18.1 + (1 : Int32))).toNatClampNeg), .int (xs ((z18.1 + (2 : Int32))).toNatClampNeg), .int (xs ((z18.1 + (3 : Int32))).toNatClampNeg), .int (xs ((z18.1 + (4 : Int32))).toNatClampNeg)]) (rest := []) (Wn := fun (uu : SV × SV × SV) => wX5 q ad uu.1 ++ (wX3 q (ad 1) uu.2.1 ++ (wX3 q (ad 2) uu.2.2 ++ (wX3 q (ad 3) (z18.2.1 3) ++ (wX3 q (ad 4) (z18.2.1 4) ++ (wX0 q (ad 5) (z18.2.1 5) (ad 6 99) ++ (wX3 q (ad 6) (z18.2.1 6) ++ (wX1 q (ad 7) (z18.2.1 7) ++ (wX4 q (ad 8) (z18.2.1 8) (ad 1 99) (ad 7 99) ++ (wX2 q (ad 9) (z18.2.1 9) ++ (wX2 q (ad 10) (z18.2.1 10) ++ (wX2 q (ad 11) (z18.2.1 11) ++ (wX2 q (ad 12) (z18.2.1 12) ++ wX6 q a z18.2.2))))))))))))) X hP3 hD3 hS3 (fun _ h => h) hl2.1 (c_X5_read l D q H3.size ad (z18.2.1 0) (z18.2.1 1) (z18.2.1 2) (z18.2.1 9) (z18.2.1 10) (z18.2.1 11) (z18.2.1 12) (xs ((z18.1 + (1 : Int32))).toNatClampNeg) (xs ((z18.1 + (2 : Int32))).toNatClampNeg) (xs ((z18.1 + (3 : Int32))).toNatClampNeg) (xs ((z18.1 + (4 : Int32))).toNatClampNeg) y1299 hy1299) [0, 1, 2, 3, 4, 5, 6, 7, 8, 9, 10, 11, 12, 13, 14, 15, 16, 17, 18, 19, 20, 21, 22, 23, 24, 25, 26, 27, 28, 29, 78, 79, 80, 81, 82, 83, 84, 85] [30, 31, 32, 33, 34, 35, 36, 37, 38, 39, 40, 41, 42, 43, 44, 45, 46, 47, 48, 49, 50, 51, 52, 53, 54, 55, 56, 57, 58, 59, 60, 61, 62, 63, 64, 65, 66, 67, 68, 69, 70, 71, 72, 73, 74, 75, 76, 77, 86, 87, 88, 89, 90, 91, 92, 93, 94, 95, 96, 97, 98, 99, 100, 101, 102, 103] [66, 67, 68, 69, 70, 71, 72, 73, 74, 75, 76, 77, 78, 79, 80, 81, 82, 83, 84, 85, 86, 87, 88, 89, 90, 91, 92, 93, 94, 95, 0, 1, 2, 3, 4, 5, 6, 7, 8, 9, 10, 11, 12, 13, 14, 15, 16, 17, 18, 19, 20, 21, 22, 23, 24, 25, 26, 27, 28, 29, 30, 31, 32, 33, 34, 35, 36, 37, 38, 39, 40, 41, 42, 43, 44, 45, 46, 47, 96, 97, 98, 99, 100, 101, 102, 103, 48, 49, 50, 51, 52, 53, 54, 55, 56, 57, 58, 59, 60, 61, 62, 63, 64, 65] rfl (Wr := wX3 q (ad 3) (z18.2.1 3) ++ (wX3 q (ad 4) (z18.2.1 4) ++ (wX0 q (ad 5) (z18.2.1 5) (ad 6 99) ++ (wX3 q (ad 6) (z18.2.1 6) ++ (wX1 q (ad 7) (z18.2.1 7) ++ (wX4 q (ad 8) (z18.2.1 8) (ad 1 99) (ad 7 99) ++ wX6 q a z18.2.2)))))) rfl (by decide) (by decide) (by decide) (by decide) (fun _ => rfl) 0 rfl rfl rfl k_840 mX5_read ⟨rfl, rfl⟩ ⟨Nat.le_of_ble_eq_true rfl, Nat.le_of_ble_eq_true rfl⟩ rfl rfl (Nat.le_of_ble_eq_true rfl) dL_law_1299 ⟨Nat.le_of_ble_eq_true rfl, Nat.le_of_ble_eq_true rfl⟩ (fun H214 locs214 hP hD hS214 => ?_)
                                                                                    have hP214 : va_P D cls (wX5 q ad y1299.2.1 ++ (wX3 q (ad 1) y1299.2.2.1 ++ (wX3 q (ad 2) y1299.2.2.2 ++ (wX3 q (ad 3) (z18.2.1 3) ++ (wX3 q (ad 4) (z18.2.1 4) ++ (wX0 q (ad 5) (z18.2.1 5) (ad 6 99) ++ (wX3 q (ad 6) (z18.2.1 6) ++ (wX1 q (ad 7) (z18.2.1 7) ++ (wX4 q (ad 8) (z18.2.1 8) (ad 1 99) (ad 7 99) ++ (wX2 q (ad 9) (z18.2.1 9) ++ (wX2 q (ad 10) (z18.2.1 10) ++ (wX2 q (ad 11) (z18.2.1 11) ++ (wX2 q (ad 12) (z18.2.1 12) ++ wX6 q a z18.2.2))))))))))))) H214 := hP
                                                                                    have hD214 : va_D (fun z : Nat => s.heap.size ≤ z) (wX5 q ad y1299.2.1 ++ (wX3 q (ad 1) y1299.2.2.1 ++ (wX3 q (ad 2) y1299.2.2.2 ++ (wX3 q (ad 3) (z18.2.1 3) ++ (wX3 q (ad 4) (z18.2.1 4) ++ (wX0 q (ad 5) (z18.2.1 5) (ad 6 99) ++ (wX3 q (ad 6) (z18.2.1 6) ++ (wX1 q (ad 7) (z18.2.1 7) ++ (wX4 q (ad 8) (z18.2.1 8) (ad 1 99) (ad 7 99) ++ (wX2 q (ad 9) (z18.2.1 9) ++ (wX2 q (ad 10) (z18.2.1 10) ++ (wX2 q (ad 11) (z18.2.1 11) ++ (wX2 q (ad 12) (z18.2.1 12) ++ wX6 q a z18.2.2))))))))))))) := hD
                                                                                    clear hP hD hP3 hD3 hS3
                                                                                    refine lv_aload_n hx hb dL_law_1302 rfl (lv_at hl2 0 rfl) ?_
                                                                                    refine lv_aload_n hx hb dL_law_1303 rfl (lv_at hl2 2 rfl) ?_
                                                                                    refine lv_iload_n hx hb dL_law_1304 rfl (lv_at hl2 3 rfl) ?_
                                                                                    refine lv_iconst (v := (1 : Int32)) hx hb dL_law_1305 (by decide) ?_
                                                                                    refine lv_iadd hx hb dL_law_1306 ?_
                                                                                    obtain ⟨h215, hm⟩ := ckd hm
                                                                                    refine va_sld hx hb hX hbl hbA hS214 (inB_vp h215) dL_law_1307 ?_
                                                                                    refine lv_aload_n hx hb dL_law_1308 rfl (lv_at hl2 2 rfl) ?_
                                                                                    refine lv_iload_n hx hb dL_law_1309 rfl (lv_at hl2 3 rfl) ?_
                                                                                    refine lv_iconst (v := (2 : Int32)) hx hb dL_law_1310 (by decide) ?_
                                                                                    refine lv_iadd hx hb dL_law_1311 ?_
                                                                                    obtain ⟨h216, hm⟩ := ckd hm
                                                                                    refine va_sld hx hb hX hbl hbA hS214 (inB_vp h216) dL_law_1312 ?_
                                                                                    refine lv_aload_n hx hb dL_law_1313 rfl (lv_at hl2 2 rfl) ?_
                                                                                    refine lv_iload_n hx hb dL_law_1314 rfl (lv_at hl2 3 rfl) ?_
                                                                                    refine lv_iconst (v := (3 : Int32)) hx hb dL_law_1315 (by decide) ?_
                                                                                    refine lv_iadd hx hb dL_law_1316 ?_
                                                                                    obtain ⟨h217, hm⟩ := ckd hm
                                                                                    refine va_sld hx hb hX hbl hbA hS214 (inB_vp h217) dL_law_1317 ?_
                                                                                    refine lv_aload_n hx hb dL_law_1318 rfl (lv_at hl2 2 rfl) ?_
                                                                                    refine lv_iload_n hx hb dL_law_1319 rfl (lv_at hl2 3 rfl) ?_
                                                                                    refine lv_iconst (v := (4 : Int32)) hx hb dL_law_1320 (by decide) ?_
                                                                                    refine lv_iadd hx hb dL_law_1321 ?_
                                                                                    obtain ⟨h218, hm⟩ := ckd hm
                                                                                    refine va_sld hx hb hX hbl hbA hS214 (inB_vp h218) dL_law_1322 ?_
                                                                                    obtain ⟨y1323, hy1323, hm⟩ := bn hm
                                                                                    refine cVWi (As := [.int (xs ((z18.1 + (1 : Int32))).toNatClampNeg), .int (xs ((z18.1 + (2 : Int32))).toNatClampNeg), .int (xs ((z18.1 + (3 : Int32))).toNatClampNeg), .int (xs ((z18.1 + (4 : Int32))).toNatClampNeg)]) (rest := [.int y1299.1]) (Wn := fun (uu : SV) => wX5 q ad y1299.2.1 ++ (wX3 q (ad 1) y1299.2.2.1 ++ (wX3 q (ad 2) y1299.2.2.2 ++ (wX3 q (ad 3) (z18.2.1 3) ++ (wX3 q (ad 4) (z18.2.1 4) ++ (wX0 q (ad 5) (z18.2.1 5) (ad 6 99) ++ (wX3 q (ad 6) (z18.2.1 6) ++ (wX1 q (ad 7) (z18.2.1 7) ++ (wX4 q (ad 8) (z18.2.1 8) (ad 1 99) (ad 7 99) ++ (wX2 q (ad 9) (z18.2.1 9) ++ (wX2 q (ad 10) (z18.2.1 10) ++ (wX2 q (ad 11) (z18.2.1 11) ++ (wX2 q (ad 12) (z18.2.1 12) ++ wX6 q a uu))))))))))))) X hP214 hD214 hS214 (fun _ h => h) hl2.1 (c_X6_read l D q H214.size a z18.2.2 (xs ((z18.1 + (1 : Int32))).toNatClampNeg) (xs ((z18.1 + (2 : Int32))).toNatClampNeg) (xs ((z18.1 + (3 : Int32))).toNatClampNeg) (xs ((z18.1 + (4 : Int32))).toNatClampNeg) y1323 hy1323) [86, 87, 88, 89, 90, 91, 92, 93, 94, 95, 96, 97, 98, 99, 100, 101, 102, 103] [0, 1, 2, 3, 4, 5, 6, 7, 8, 9, 10, 11, 12, 13, 14, 15, 16, 17, 18, 19, 20, 21, 22, 23, 24, 25, 26, 27, 28, 29, 30, 31, 32, 33, 34, 35, 36, 37, 38, 39, 40, 41, 42, 43, 44, 45, 46, 47, 48, 49, 50, 51, 52, 53, 54, 55, 56, 57, 58, 59, 60, 61, 62, 63, 64, 65, 66, 67, 68, 69, 70, 71, 72, 73, 74, 75, 76, 77, 78, 79, 80, 81, 82, 83, 84, 85] [0, 1, 2, 3, 4, 5, 6, 7, 8, 9, 10, 11, 12, 13, 14, 15, 16, 17, 18, 19, 20, 21, 22, 23, 24, 25, 26, 27, 28, 29, 30, 31, 32, 33, 34, 35, 36, 37, 38, 39, 40, 41, 42, 43, 44, 45, 46, 47, 48, 49, 50, 51, 52, 53, 54, 55, 56, 57, 58, 59, 60, 61, 62, 63, 64, 65, 66, 67, 68, 69, 70, 71, 72, 73, 74, 75, 76, 77, 78, 79, 80, 81, 82, 83, 84, 85, 86, 87, 88, 89, 90, 91, 92, 93, 94, 95, 96, 97, 98, 99, 100, 101, 102, 103] rfl (Wr := wX5 q ad y1299.2.1 ++ (wX3 q (ad 1) y1299.2.2.1 ++ (wX3 q (ad 2) y1299.2.2.2 ++ (wX3 q (ad 3) (z18.2.1 3) ++ (wX3 q (ad 4) (z18.2.1 4) ++ (wX0 q (ad 5) (z18.2.1 5) (ad 6 99) ++ (wX3 q (ad 6) (z18.2.1 6) ++ (wX1 q (ad 7) (z18.2.1 7) ++ (wX4 q (ad 8) (z18.2.1 8) (ad 1 99) (ad 7 99) ++ (wX2 q (ad 9) (z18.2.1 9) ++ (wX2 q (ad 10) (z18.2.1 10) ++ (wX2 q (ad 11) (z18.2.1 11) ++ wX2 q (ad 12) (z18.2.1 12))))))))))))) rfl (by decide) (by decide) (by decide) (by decide) (fun _ => rfl) 86 rfl rfl rfl k_1316 mX6_read ⟨rfl, rfl⟩ ⟨Nat.le_of_ble_eq_true rfl, Nat.le_of_ble_eq_true rfl⟩ rfl rfl (Nat.le_of_ble_eq_true rfl) dL_law_1323 ⟨Nat.le_of_ble_eq_true rfl, Nat.le_of_ble_eq_true rfl⟩ (fun H219 locs219 hP hD hS219 => ?_)
                                                                                    have hP219 : va_P D cls (wX5 q ad y1299.2.1 ++ (wX3 q (ad 1) y1299.2.2.1 ++ (wX3 q (ad 2) y1299.2.2.2 ++ (wX3 q (ad 3) (z18.2.1 3) ++ (wX3 q (ad 4) (z18.2.1 4) ++ (wX0 q (ad 5) (z18.2.1 5) (ad 6 99) ++ (wX3 q (ad 6) (z18.2.1 6) ++ (wX1 q (ad 7) (z18.2.1 7) ++ (wX4 q (ad 8) (z18.2.1 8) (ad 1 99) (ad 7 99) ++ (wX2 q (ad 9) (z18.2.1 9) ++ (wX2 q (ad 10) (z18.2.1 10) ++ (wX2 q (ad 11) (z18.2.1 11) ++ (wX2 q (ad 12) (z18.2.1 12) ++ wX6 q a y1323.2))))))))))))) H219 := hP
                                                                                    have hD219 : va_D (fun z : Nat => s.heap.size ≤ z) (wX5 q ad y1299.2.1 ++ (wX3 q (ad 1) y1299.2.2.1 ++ (wX3 q (ad 2) y1299.2.2.2 ++ (wX3 q (ad 3) (z18.2.1 3) ++ (wX3 q (ad 4) (z18.2.1 4) ++ (wX0 q (ad 5) (z18.2.1 5) (ad 6 99) ++ (wX3 q (ad 6) (z18.2.1 6) ++ (wX1 q (ad 7) (z18.2.1 7) ++ (wX4 q (ad 8) (z18.2.1 8) (ad 1 99) (ad 7 99) ++ (wX2 q (ad 9) (z18.2.1 9) ++ (wX2 q (ad 10) (z18.2.1 10) ++ (wX2 q (ad 11) (z18.2.1 11) ++ (wX2 q (ad 12) (z18.2.1 12) ++ wX6 q a y1323.2))))))))))))) := hD
                                                                                    clear hP hD hP214 hD214 hS214
                                                                                    refine lv_icmp_eq (tgt := 1367) hx hb dL_law_1326 (by decide) (fun c1326 => ?_) (fun c1326 => ?_)
                                                                                    · replace hm := tp hm c1326
                                                                                      refine lv_iinc (v := (z18.1 + (5 : Int32))) (lv' := [(3, .int (z18.1 + (5 : Int32))), (2, .ref (a 99)), (1, .ref (ad 0 99)), (0, .ref b)]) hx hb dL_law_1367 hl2 (k := 3) rfl rfl (by decide) rfl (fun ls220 hl220 => ?_)
                                                                                      clear hl2
                                                                                      refine lv_goto (tgt := 18) hx hb dL_law_1370 (by decide) ?_
                                                                                      cases hm
                                                                                      exact ih18 ((z18.1 + (5 : Int32)), (mkG y1299.2.1 y1299.2.2.1 y1299.2.2.2 (z18.2.1 3) (z18.2.1 4) (z18.2.1 5) (z18.2.1 6) (z18.2.1 7) (z18.2.1 8) (z18.2.1 9) (z18.2.1 10) (z18.2.1 11) (z18.2.1 12)), y1323.2) ρ18 hz18 hK18 _ _ hP219 hD219 hS219 _ (lv_sub hl220 [1, 2, 3, 0] rfl)
                                                                                    · replace hm := tn hm c1326
                                                                                      refine lv_iconst (v := (0 : Int32)) hx hb dL_law_1329 (by decide) ?_
                                                                                      cases hm
                                                                                      cases hz18
                                                                                      have hm : (some (0 : Int32) : Option Int32) = some (1 : Int32) := hK18
                                                                                      exact absurd (Option.some.inj hm) (by decide)
                                                                                  · replace hm := tn hm c32_37
                                                                                    by_cases c32_38 : ((xs (z18.1).toNatClampNeg) &&& (63 : Int32)) = (38 : Int32)
                                                                                    · replace hm := tp hm c32_38
                                                                                      refine lv_tableIn (off := 1299) (tgt := 1331) hx hb dL_law_32 (by rw [c32_38]; decide) (by rw [c32_38]; decide) (by rw [c32_38]; rfl) (by decide) ?_
                                                                                      refine lv_aload_n hx hb dL_law_1331 rfl (lv_at hl2 1 rfl) ?_
                                                                                      obtain ⟨y1332, hy1332, hm⟩ := bn hm
                                                                                      refine cVRi (As := []) (rest := []) X hP3 hl2.1 (c_X5_torn l D q ad (z18.2.1 0) y1332 hy1332) [0, 1, 2, 3, 4, 5] rfl 0 rfl rfl rfl k_849 mX5_torn ⟨rfl, rfl⟩ ⟨Nat.le_of_ble_eq_true rfl, Nat.le_of_ble_eq_true rfl⟩ rfl rfl (Nat.le_of_ble_eq_true rfl) dL_law_1332 ⟨Nat.le_of_ble_eq_true rfl, Nat.le_of_ble_eq_true rfl⟩ ?_
                                                                                      refine lv_aload_n hx hb dL_law_1335 rfl (lv_at hl2 0 rfl) ?_
                                                                                      obtain ⟨y1336, hy1336, hm⟩ := bn hm
                                                                                      refine cVRi (As := []) (rest := [.int y1332]) X hP3 hl2.1 (c_X6_torn l D q a z18.2.2 y1336 hy1336) [86, 87, 88, 89, 90, 91, 92, 93, 94, 95, 96, 97, 98, 99, 100, 101, 102, 103] rfl 86 rfl rfl rfl k_1321 mX6_torn ⟨rfl, rfl⟩ ⟨Nat.le_of_ble_eq_true rfl, Nat.le_of_ble_eq_true rfl⟩ rfl rfl (Nat.le_of_ble_eq_true rfl) dL_law_1336 ⟨Nat.le_of_ble_eq_true rfl, Nat.le_of_ble_eq_true rfl⟩ ?_
                                                                                      refine lv_icmp_eq (tgt := 1367) hx hb dL_law_1339 (by decide) (fun c1339 => ?_) (fun c1339 => ?_)
                                                                                      · replace hm := tp hm c1339
                                                                                        refine lv_iinc (v := (z18.1 + (5 : Int32))) (lv' := [(3, .int (z18.1 + (5 : Int32))), (2, .ref (a 99)), (1, .ref (ad 0 99)), (0, .ref b)]) hx hb dL_law_1367 hl2 (k := 3) rfl rfl (by decide) rfl (fun ls221 hl221 => ?_)
                                                                                        clear hl2
                                                                                        refine lv_goto (tgt := 18) hx hb dL_law_1370 (by decide) ?_
                                                                                        cases hm
                                                                                        exact ih18 ((z18.1 + (5 : Int32)), z18.2.1, z18.2.2) ρ18 hz18 hK18 _ _ hP3 hD3 hS3 _ (lv_sub hl221 [1, 2, 3, 0] rfl)
                                                                                      · replace hm := tn hm c1339
                                                                                        refine lv_iconst (v := (0 : Int32)) hx hb dL_law_1342 (by decide) ?_
                                                                                        cases hm
                                                                                        cases hz18
                                                                                        have hm : (some (0 : Int32) : Option Int32) = some (1 : Int32) := hK18
                                                                                        exact absurd (Option.some.inj hm) (by decide)
                                                                                    · replace hm := tn hm c32_38
                                                                                      by_cases c32_39 : ((xs (z18.1).toNatClampNeg) &&& (63 : Int32)) = (39 : Int32)
                                                                                      · replace hm := tp hm c32_39
                                                                                        refine lv_tableIn (off := 1312) (tgt := 1344) hx hb dL_law_32 (by rw [c32_39]; decide) (by rw [c32_39]; decide) (by rw [c32_39]; rfl) (by decide) ?_
                                                                                        refine lv_aload_n hx hb dL_law_1344 rfl (lv_at hl2 1 rfl) ?_
                                                                                        refine lv_aload_n hx hb dL_law_1345 rfl (lv_at hl2 2 rfl) ?_
                                                                                        refine lv_iload_n hx hb dL_law_1346 rfl (lv_at hl2 3 rfl) ?_
                                                                                        refine lv_iconst (v := (1 : Int32)) hx hb dL_law_1347 (by decide) ?_
                                                                                        refine lv_iadd hx hb dL_law_1348 ?_
                                                                                        obtain ⟨h222, hm⟩ := ckd hm
                                                                                        refine va_sld hx hb hX hbl hbA hS3 (inB_vp h222) dL_law_1349 ?_
                                                                                        obtain ⟨y1350, hy1350, hm⟩ := bn hm
                                                                                        refine cVRi (As := [.int (xs ((z18.1 + (1 : Int32))).toNatClampNeg)]) (rest := []) X hP3 hl2.1 (c_X5_count l D q ad (z18.2.1 0) (z18.2.1 1) (z18.2.1 5) (z18.2.1 6) (z18.2.1 7) (z18.2.1 9) (xs ((z18.1 + (1 : Int32))).toNatClampNeg) y1350 hy1350) [0, 1, 2, 3, 4, 5, 6, 7, 8, 9, 10, 11, 12, 13, 14, 15, 16, 17, 54, 55, 56, 57, 58, 59, 60, 61, 62, 63, 64, 65, 66, 67, 68, 69, 70, 71, 78, 79] rfl 0 rfl rfl rfl k_853 mX5_count ⟨rfl, rfl⟩ ⟨Nat.le_of_ble_eq_true rfl, Nat.le_of_ble_eq_true rfl⟩ rfl rfl (Nat.le_of_ble_eq_true rfl) dL_law_1350 ⟨Nat.le_of_ble_eq_true rfl, Nat.le_of_ble_eq_true rfl⟩ ?_
                                                                                        refine lv_aload_n hx hb dL_law_1353 rfl (lv_at hl2 0 rfl) ?_
                                                                                        refine lv_aload_n hx hb dL_law_1354 rfl (lv_at hl2 2 rfl) ?_
                                                                                        refine lv_iload_n hx hb dL_law_1355 rfl (lv_at hl2 3 rfl) ?_
                                                                                        refine lv_iconst (v := (1 : Int32)) hx hb dL_law_1356 (by decide) ?_
                                                                                        refine lv_iadd hx hb dL_law_1357 ?_
                                                                                        obtain ⟨h223, hm⟩ := ckd hm
                                                                                        refine va_sld hx hb hX hbl hbA hS3 (inB_vp h223) dL_law_1358 ?_
                                                                                        obtain ⟨y1359, hy1359, hm⟩ := bn hm
                                                                                        refine cVRi (As := [.int (xs ((z18.1 + (1 : Int32))).toNatClampNeg)]) (rest := [.int y1350]) X hP3 hl2.1 (c_X6_count l D q a z18.2.2 (xs ((z18.1 + (1 : Int32))).toNatClampNeg) y1359 hy1359) [86, 87, 88, 89, 90, 91, 92, 93, 94, 95, 96, 97, 98, 99, 100, 101, 102, 103] rfl 86 rfl rfl rfl k_1325 mX6_count ⟨rfl, rfl⟩ ⟨Nat.le_of_ble_eq_true rfl, Nat.le_of_ble_eq_true rfl⟩ rfl rfl (Nat.le_of_ble_eq_true rfl) dL_law_1359 ⟨Nat.le_of_ble_eq_true rfl, Nat.le_of_ble_eq_true rfl⟩ ?_
                                                                                        refine lv_icmp_eq (tgt := 1367) hx hb dL_law_1362 (by decide) (fun c1362 => ?_) (fun c1362 => ?_)
                                                                                        · replace hm := tp hm c1362
                                                                                          refine lv_iinc (v := (z18.1 + (5 : Int32))) (lv' := [(3, .int (z18.1 + (5 : Int32))), (2, .ref (a 99)), (1, .ref (ad 0 99)), (0, .ref b)]) hx hb dL_law_1367 hl2 (k := 3) rfl rfl (by decide) rfl (fun ls224 hl224 => ?_)
                                                                                          clear hl2
                                                                                          refine lv_goto (tgt := 18) hx hb dL_law_1370 (by decide) ?_
                                                                                          cases hm
                                                                                          exact ih18 ((z18.1 + (5 : Int32)), z18.2.1, z18.2.2) ρ18 hz18 hK18 _ _ hP3 hD3 hS3 _ (lv_sub hl224 [1, 2, 3, 0] rfl)
                                                                                        · replace hm := tn hm c1362
                                                                                          refine lv_iconst (v := (0 : Int32)) hx hb dL_law_1365 (by decide) ?_
                                                                                          cases hm
                                                                                          cases hz18
                                                                                          have hm : (some (0 : Int32) : Option Int32) = some (1 : Int32) := hK18
                                                                                          exact absurd (Option.some.inj hm) (by decide)
                                                                                      · replace hm := tn hm c32_39
                                                                                        have hk32 : ((xs (z18.1).toNatClampNeg) &&& (63 : Int32)).toInt < 0 ∨ 39 < ((xs (z18.1).toNatClampNeg) &&& (63 : Int32)).toInt := by
                                                                                          have g0 := lv_neT c32_0 (show ((0 : Int32)).toInt = 0 from rfl)
                                                                                          have g1 := lv_neT c32_1 (show ((1 : Int32)).toInt = 1 from rfl)
                                                                                          have g2 := lv_neT c32_2 (show ((2 : Int32)).toInt = 2 from rfl)
                                                                                          have g3 := lv_neT c32_3 (show ((3 : Int32)).toInt = 3 from rfl)
                                                                                          have g4 := lv_neT c32_4 (show ((4 : Int32)).toInt = 4 from rfl)
                                                                                          have g5 := lv_neT c32_5 (show ((5 : Int32)).toInt = 5 from rfl)
                                                                                          have g6 := lv_neT c32_6 (show ((6 : Int32)).toInt = 6 from rfl)
                                                                                          have g7 := lv_neT c32_7 (show ((7 : Int32)).toInt = 7 from rfl)
                                                                                          have g8 := lv_neT c32_8 (show ((8 : Int32)).toInt = 8 from rfl)
                                                                                          have g9 := lv_neT c32_9 (show ((9 : Int32)).toInt = 9 from rfl)
                                                                                          have g10 := lv_neT c32_10 (show ((10 : Int32)).toInt = 10 from rfl)
                                                                                          have g11 := lv_neT c32_11 (show ((11 : Int32)).toInt = 11 from rfl)
                                                                                          have g12 := lv_neT c32_12 (show ((12 : Int32)).toInt = 12 from rfl)
                                                                                          have g13 := lv_neT c32_13 (show ((13 : Int32)).toInt = 13 from rfl)
                                                                                          have g14 := lv_neT c32_14 (show ((14 : Int32)).toInt = 14 from rfl)
                                                                                          have g15 := lv_neT c32_15 (show ((15 : Int32)).toInt = 15 from rfl)
                                                                                          have g16 := lv_neT c32_16 (show ((16 : Int32)).toInt = 16 from rfl)
                                                                                          have g17 := lv_neT c32_17 (show ((17 : Int32)).toInt = 17 from rfl)
                                                                                          have g18 := lv_neT c32_18 (show ((18 : Int32)).toInt = 18 from rfl)
                                                                                          have g19 := lv_neT c32_19 (show ((19 : Int32)).toInt = 19 from rfl)
                                                                                          have g20 := lv_neT c32_20 (show ((20 : Int32)).toInt = 20 from rfl)
                                                                                          have g21 := lv_neT c32_21 (show ((21 : Int32)).toInt = 21 from rfl)
                                                                                          have g22 := lv_neT c32_22 (show ((22 : Int32)).toInt = 22 from rfl)
                                                                                          have g23 := lv_neT c32_23 (show ((23 : Int32)).toInt = 23 from rfl)
                                                                                          have g24 := lv_neT c32_24 (show ((24 : Int32)).toInt = 24 from rfl)
                                                                                          have g25 := lv_neT c32_25 (show ((25 : Int32)).toInt = 25 from rfl)
                                                                                          have g26 := lv_neT c32_26 (show ((26 : Int32)).toInt = 26 from rfl)
                                                                                          have g27 := lv_neT c32_27 (show ((27 : Int32)).toInt = 27 from rfl)
                                                                                          have g28 := lv_neT c32_28 (show ((28 : Int32)).toInt = 28 from rfl)
                                                                                          have g29 := lv_neT c32_29 (show ((29 : Int32)).toInt = 29 from rfl)
                                                                                          have g30 := lv_neT c32_30 (show ((30 : Int32)).toInt = 30 from rfl)
                                                                                          have g31 := lv_neT c32_31 (show ((31 : Int32)).toInt = 31 from rfl)
                                                                                          have g32 := lv_neT c32_32 (show ((32 : Int32)).toInt = 32 from rfl)
                                                                                          have g33 := lv_neT c32_33 (show ((33 : Int32)).toInt = 33 from rfl)
                                                                                          have g34 := lv_neT c32_34 (show ((34 : Int32)).toInt = 34 from rfl)
                                                                                          have g35 := lv_neT c32_35 (show ((35 : Int32)).toInt = 35 from rfl)
                                                                                          have g36 := lv_neT c32_36 (show ((36 : Int32)).toInt = 36 from rfl)
                                                                                          have g37 := lv_neT c32_37 (show ((37 : Int32)).toInt = 37 from rfl)
                                                                                          have g38 := lv_neT c32_38 (show ((38 : Int32)).toInt = 38 from rfl)
                                                                                          have g39 := lv_neT c32_39 (show ((39 : Int32)).toInt = 39 from rfl)
                                                                                          omega
                                                                                        refine lv_tableOut (tgt := 1367) hx hb dL_law_32 hk32 (by decide) ?_
                                                                                        refine lv_iinc (v := (z18.1 + (5 : Int32))) (lv' := [(3, .int (z18.1 + (5 : Int32))), (2, .ref (a 99)), (1, .ref (ad 0 99)), (0, .ref b)]) hx hb dL_law_1367 hl2 (k := 3) rfl rfl (by decide) rfl (fun ls225 hl225 => ?_)
                                                                                        clear hl2
                                                                                        refine lv_goto (tgt := 18) hx hb dL_law_1370 (by decide) ?_
                                                                                        cases hm
                                                                                        exact ih18 ((z18.1 + (5 : Int32)), z18.2.1, z18.2.2) ρ18 hz18 hK18 _ _ hP3 hD3 hS3 _ (lv_sub hl225 [1, 2, 3, 0] rfl)
  exact hL18 n18 ((0 : Int32), (G0 rs), v_X6) r18 hn18 hm _ _ hP0 hD0 hS0 _ (lv_sub hl1 [1, 2, 3, 0] rfl)
-- ===== YOUR PART ENDS =====
set_option maxHeartbeats 4000000 in
theorem lw_walk (l : Launch) (hflags : l.flags = flags0) (b : Addr) (xs : List Int32) : MetFree l x (headSpec (Jvm.Cond.code x code maxLocals ret :: tables_1) room_1) (lw_P b xs) (fun _ _ _ _ _ => True) lw_Q := by
  refine MetFree.of_bodyS (code := code) (maxLocals := maxLocals) (ret := ret) (by decide) ?_ ?_
  · intro args s m h hn
    obtain ⟨meth, c, h1, h2, h3, h4, h5, h6, -, -⟩ := Cond.code_spec hn (atoms_spec (ws := Jvm.Cond.code x code maxLocals ret :: tables_1) h _ List.mem_cons_self)
    exact ⟨meth, c, h1, h2, h3, h4, h5, h6⟩
  · intro p e s m args below meth c s₁ B hml0 hP _
    obtain ⟨rfl, hx, hbd, hgv⟩ := hP
    obtain ⟨scr, harrAt, hlist, hof, hsmall⟩ := hx
    obtain ⟨hcb, hkn, -, -⟩ := State.arrayAt?_spec harrAt
    have hown : s.vm.findClass R_law = some m.cls := findClass_of_methodNamed B.named
    have hts0 : ∀ c ∈ (Jvm.Cond.code x code maxLocals ret :: tables_1), c.before #[Value.ref b] s = true := atoms_spec (ws := Jvm.Cond.code x code maxLocals ret :: tables_1) B.pre
    have hts : ∀ w ∈ lw_tbl, w.before #[Value.ref b] s = true := k2_hts_sels lw_privs (fun w hw => hts0 w (List.mem_cons_of_mem _ hw)) lw_privs_ok
    have hml : c.maxLocals = 4 := B.maxLocals_eq (hts0 _ List.mem_cons_self)
    have X₀ : Stand p l e room_1 s m #[Value.ref b] below meth c s₁ [] 0 0 := Stand.of_body B
    have hh0 : s₁.heap = s.heap := by rw [B.state]; rfl
    have hsz : scr.slots.size = xs.length := by rw [← Array.length_toList, hlist, List.length_map]
    have hval : ∀ j : Nat, j < xs.length → scr.slots[j]? = some (.int (xs.getD j 0)) := fun j hj => by
      rw [← Array.getElem?_toList, hlist]
      simp [hj]
    have hbl : b < s.heap.size := (Array.getElem?_eq_some_iff.mp hcb).1
    have hX : va_X b xs.length (fun j => xs.getD j 0) s s.heap := ⟨scr, hcb, hof, hkn, hsz, hval⟩
    have K : W p l e room_1 s m #[Value.ref b] below meth c s₁.heap [] 0 0 (lw_Z below #[Value.ref b] s) (entryFrame m ([Value.ref b] : List Value).toArray 4) := by
      rw [hh0]
      exact whole_start l hflags hbd ⟨B.exec, B.bytes, B.returns, hml, hown, hts, hX, hbl, B.notSynchronized, hgv⟩
    obtain ⟨t, a1, o, b1, b2, b3⟩ := K s₁ rfl X₀
    exact ⟨t, o, a1, b1, b2, b3⟩
theorem lw_pre_spec {args : Array Value} {s : State} (h : (Jvm.Cond.and given_1 narrow_1).before args s = true) (hr : rest_1_c.before args s = true) : ∃ (b : Addr) (xs : List Int32), lw_P b xs args s := by
  have hs := flat_of_before _ h
  have hq := flat_of_before _ hr
  have hc : (Cond.count 1).before args s = true := hs _ (by decide +kernel)
  have harr : (Cond.arrayOf (.arg 0) .int).before args s = true := hs _ (by decide +kernel)
  have hle : (Cond.le (.length (.arg 0)) (.int 320)).before args s = true := hs _ (by decide +kernel)
  have hlen : (Cond.isInt (.length (.arg 0))).before args s = true := hq _ (by decide +kernel)
  have hall : (Cond.all (.arg 0) (.isInt (.elem (.arg 0) (.index 0)))).before args s = true := hq _ (by decide +kernel)
  obtain ⟨b, xs, hb, hx⟩ := State.ints_of_pre rfl harr hlen hall
  have hsm : xs.length < 2 ^ 31 := hx.choose_spec.2.2.2
  have hev : (Term.length (.arg 0)).eval args s none [] s = some (.int xs.length.toInt32) := hx.length_eval hb
  have hv := Cond.le_ints hev (show (Term.int 320).eval args s none [] s = some (.int 320) from rfl)
  have hd : xs.length.toInt32 ≤ 320 := by
    simpa [Cond.before, Cond.holds, hv] using hle
  have hN : xs.length ≤ 320 := (Int32.ofNat_le_ofNat hsm (by decide)).mp (show Int32.ofNat xs.length ≤ Int32.ofNat 320 from hd)
  exact ⟨b, xs, Cond.one_arg hc (show args[0]? = some (.ref b) from hb), hx, hN, h⟩
theorem lw_comes (l : Launch) (hflags : l.flags = flags0) : Comes l x (Jvm.Cond.code x code maxLocals ret :: tables_1) room_1 (fun tb e args s => Calls_1 tb e args s ∧ rest_1 tb e args s ∧ Pre_1 tb e args s)
    (fun _ _ args s o t => lw_Q args s o t) := by
  intro p e ha hc hk s m args below hf hfit hheap happ hpre
  obtain ⟨b, xs, hP⟩ := lw_pre_spec hpre.2.2 hpre.2.1
  obtain ⟨k, o, h1, h2, h3, hQ⟩ := lw_walk l hflags b xs p e ha hc hk s m args below hf ((Spec.applies_iff_loose hf).mp happ).1 hP trivial
  exact ⟨k, o, h1, h2, h3, hQ⟩
theorem lw_frame {s t : State} {o : Outcome} {args : Array Value} (h : Framed s o t [] 600000 7302250) :
    Framed s o t (fieldLocs frame_1_writes args s ++ arrayLocs frame_1_arrays args s ++ staticLocs frame_1_statics s) 600000 7302250 := h
theorem lw_limb (L : Cond) (hL : ∀ (args : Array Value) (s t : State), L.after args s (.returned (some (.int 1))) t = true) :
    ArmFor flags0 classFile x code maxLocals ret World_1 tables_1 room_1 Calls_1 rest_1 Pre_1
      (fun tb e a s o t => postC L tb e a s o t ∧ Framed s o t (fieldLocs frame_1_writes a s ++ arrayLocs frame_1_arrays a s ++ staticLocs frame_1_statics s) 600000 7302250) := by
  intro l hflags _ _ p e ha hc hk s m args below hf hfit hheap happ hpre
  obtain ⟨k, o, h1, h2, h3, rfl, hF⟩ := lw_comes l hflags p e ha hc hk s m args below hf hfit hheap happ hpre
  exact ⟨k, _, h1, h2, h3, hL args s _, lw_frame hF⟩
theorem i_vc : Claimed_1_1 ∧ Claimed_1_2 := ⟨lw_limb limb_1_1 (fun args s t => by simp [limb_1_1, Cond.after, Cond.holds, Cond.value]), lw_limb limb_1_2 (fun args s t => Cond.after_iff.mpr (by
  first | (rw [show limb_1_2 = Cond.eq .result (.int 1) from rfl, Cond.eq_ints (x := 1) (y := 1) rfl rfl]; simp; done) | (simp [limb_1_2, Cond.value, Term.eval]; done)))⟩
