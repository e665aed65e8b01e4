/-! ===== PURE: one step of the law ===== -/
def vv2 (a b : SV) : Nat → SV
  | 0 => a
  | _ => b
def vv4 (a b c d : SV) : Nat → SV
  | 0 => a
  | 1 => b
  | 2 => c
  | _ => d
def GoodS (i : Nat) (X : Option ((Int32 × (Nat → SV) × SV) ⊕ ((Int32 × (Nat → SV) × SV) ⊕ Int32))) : Prop := ∃ G' w', X = some (.inl (nI (i + 5), G', w')) ∧ Rel2 G' w'
theorem good_if {i : Nat} {c : Prop} [Decidable c] {a b : Option ((Int32 × (Nat → SV) × SV) ⊕ ((Int32 × (Nat → SV) × SV) ⊕ Int32))} (h1 : c → GoodS i a) (h2 : ¬ c → GoodS i b) : GoodS i (if c then a else b) := by
  by_cases h : c
  · rw [if_pos h]; exact h1 h
  · rw [if_neg h]; exact h2 h
theorem i5 (m : Nat) : nI m + (5 : Int32) = nI (m + 5) := by rw [lit_nI 5, nI_add]
theorem gq {i : Nat} {G : Nat → SV} {w : SV} {f g : Option Int32} {a : Int32} (hR : Rel2 G w) (h1 : f = some a) (h2 : g = some a) : GoodS i (f.bind (fun y => g.bind (fun y' => if y = y' then some (.inl (nI i + (5 : Int32), G, w)) else some (.inr (.inr (0 : Int32)))))) := by
  rw [h1, some_bind, h2, some_bind, if_pos rfl, i5]
  exact ⟨_, _, rfl, hR⟩
theorem gl {i : Nat} {G : Nat → SV} {w : SV} {f g : Option Int64} {a : Int64} (hR : Rel2 G w) (h1 : f = some a) (h2 : g = some a) : GoodS i (f.bind (fun y => g.bind (fun y' => if (lg_cmp y y') = 0 then some (.inl (nI i + (5 : Int32), G, w)) else some (.inr (.inr (0 : Int32)))))) := by
  rw [h1, some_bind, h2, some_bind, if_pos (lg_self a), i5]
  exact ⟨_, _, rfl, hR⟩
theorem gs {α : Type} {i : Nat} {f : Option (Int32 × α)} {g : Option (Int32 × SV)} {a : Int32} {s : α} {w' : SV} (F : α → Nat → SV) (h1 : f = some (a, s)) (h2 : g = some (a, w')) (hR : Rel2 (F s) w') : GoodS i (f.bind (fun y => g.bind (fun y' => if y.1 = y'.1 then some (.inl (nI i + (5 : Int32), F y.2, y'.2)) else some (.inr (.inr (0 : Int32)))))) := by
  rw [h1, some_bind, h2, some_bind]
  dsimp +instances only
  rw [if_pos rfl, i5]
  exact ⟨_, _, rfl, hR⟩
theorem lim_s {L i : Nat} (hL : L ≤ 320) (hi : i ≤ 400) : ((Int32.ofNat L) - (5 : Int32) < nI i) = (L < i + 5) := by
  have h : (nI L - (5 : Int32)).toInt = (L : Int) - 5 := by
    by_cases h5 : 5 ≤ L
    · rw [show (5 : Int32) = nI 5 from rfl, pk_sub h5, nI_toInt (by omega)]
      omega
    · have h4 : L = 0 ∨ L = 1 ∨ L = 2 ∨ L = 3 ∨ L = 4 := by omega
      rcases h4 with rfl | rfl | rfl | rfl | rfl <;> rfl
  show (nI L - (5 : Int32) < nI i) = (L < i + 5)
  rw [Int32.lt_iff_toInt_lt, h, nI_toInt (by omega)]
  exact propext (by omega)
set_option maxHeartbeats 4000000 in
theorem law_step {L i : Nat} {xs : Nat → Int32} {G : Nat → SV} {w : SV} (hL : L ≤ 320) (hi : i + 5 ≤ L) (hG : Rel2 G w) : GoodS i (m_L_law_L18 L xs (nI i, G, w)) := by
  have hG' := hG
  obtain ⟨h10, A, hR, hW, hd, hM, hO⟩ := hG'
  have hO' := hO
  obtain ⟨n, t, S, kp, o1, o2, o3, o4, o5, o6, o7, o8, o9, o10, o11, o12⟩ := hO'
  have hI : ∀ k, k < 2 → ImR (G 0) (vv2 (G 3) (G 4) k) w k A (kp k) := fun k hk => by
    have h2 : k = 0 ∨ k = 1 := by omega
    rcases h2 with rfl | rfl
    · exact o4
    · exact o5
  have hSh : ∀ k, k < 4 → ShR (vv4 (G 9) (G 10) (G 11) (G 12) k) w k := fun k hk => by
    have h4 : k = 0 ∨ k = 1 ∨ k = 2 ∨ k = 3 := by omega
    rcases h4 with rfl | rfl | rfl | rfl
    · exact o6
    · exact o7
    · exact o8
    · exact o9
  have hb0 : inB (nI i) L = true := inB_nI (by omega) (by omega)
  have hb1 : inB (nI i + (1 : Int32)) L = true := by rw [lit_nI 1, nI_add]; exact inB_nI (by omega) (by omega)
  have hb2 : inB (nI i + (2 : Int32)) L = true := by rw [lit_nI 2, nI_add]; exact inB_nI (by omega) (by omega)
  have hb3 : inB (nI i + (3 : Int32)) L = true := by rw [lit_nI 3, nI_add]; exact inB_nI (by omega) (by omega)
  have hb4 : inB (nI i + (4 : Int32)) L = true := by rw [lit_nI 4, nI_add]; exact inB_nI (by omega) (by omega)
  have hsee : ∀ b : Bool, ∃ a v' w' S', m_X5_see (G 0) (G 1) (G 7) (xs (nI i + (1 : Int32)).toNatClampNeg) (xs (nI i + (2 : Int32)).toNatClampNeg) (bI b) = some (a, v') ∧ m_X6_see w (xs (nI i + (1 : Int32)).toNatClampNeg) (xs (nI i + (2 : Int32)).toNatClampNeg) (bI b) = some (a, w') ∧ RepN v' w' S' A ∧ FrR w w' [31] [32] := fun b => see_b (G 0) hR hM hW.1 o3 _ _ b
  unfold m_L_law_L18
  dsimp only
  rw [if_neg (show ¬ (Int32.ofNat L) - (5 : Int32) < nI i from fun e => by
    have := (lim_s (i := i) hL (by omega)).mp e
    omega)]
  simp only [hb0, hb1, hb2, hb3, hb4, ck_true]
  refine good_if (fun _ => ?_) (fun _ => ?_)
  · obtain ⟨a, v', w', n', t', e1, e2, e3, e4, e5⟩ := feed_b (G 0) (G 6) o1 (xs (nI i + (1 : Int32)).toNatClampNeg)
    exact gs (fun s => mkG (G 0) (G 1) (G 2) (G 3) (G 4) s (G 6) (G 7) (G 8) (G 9) (G 10) (G 11) (G 12)) e1 e2 (mkR (R_tape h10 hR hW hd hM hO e3 e4 e5))
  refine good_if (fun _ => ?_) (fun _ => ?_)
  · obtain ⟨a, v', w', n', t', e1, e2, e3, e4, e5⟩ := end_b (G 0) (G 6) o1 (xs (nI i + (1 : Int32)).toNatClampNeg)
    exact gs (fun s => mkG (G 0) (G 1) (G 2) (G 3) (G 4) s (G 6) (G 7) (G 8) (G 9) (G 10) (G 11) (G 12)) e1 e2 (mkR (R_tape h10 hR hW hd hM hO e3 e4 e5))
  refine good_if (fun _ => ?_) (fun _ => ?_)
  · obtain ⟨a, v0', v1', v5', v6', v7', w', A', e1, e2, g1, g2, g3, g4, g5⟩ := text_b (v6 := G 6) hR hW hd hM hO
    exact gs (fun s : SV × SV × SV × SV × SV => mkG s.1 s.2.1 (G 2) (G 3) (G 4) s.2.2.1 s.2.2.2.1 s.2.2.2.2 (G 8) (G 9) (G 10) (G 11) (G 12)) e1 e2 (mkR ⟨h10, A', g1, g2, g3, g4, g5⟩)
  refine good_if (fun _ => ?_) (fun _ => ?_)
  · exact gq hG (a := G 5 0 3) rfl (by unfold m_X6_fault; rw [o2])
  refine good_if (fun _ => ?_) (fun _ => ?_)
  · exact gq hG (rule_s (G 0) hR hW (xs (nI i + (1 : Int32)).toNatClampNeg)) (rule6_s hM hW (xs (nI i + (1 : Int32)).toNatClampNeg))
  refine good_if (fun _ => ?_) (fun _ => ?_)
  · exact gq hG (part_s (G 0) hR hW (xs (nI i + (1 : Int32)).toNatClampNeg) (xs (nI i + (2 : Int32)).toNatClampNeg)) (part6_s hM hW (xs (nI i + (1 : Int32)).toNatClampNeg) (xs (nI i + (2 : Int32)).toNatClampNeg))
  refine good_if (fun _ => ?_) (fun _ => ?_)
  · exact gq hG (layer_s (G 0) hR hW (xs (nI i + (1 : Int32)).toNatClampNeg) (xs (nI i + (2 : Int32)).toNatClampNeg)) (layer6_s hM hW (xs (nI i + (1 : Int32)).toNatClampNeg) (xs (nI i + (2 : Int32)).toNatClampNeg))
  refine good_if (fun _ => ?_) (fun _ => ?_)
  · exact gq hG (sitter_s (G 0) hR hW (xs (nI i + (1 : Int32)).toNatClampNeg) (xs (nI i + (2 : Int32)).toNatClampNeg)) (sitter6_s hM hW (xs (nI i + (1 : Int32)).toNatClampNeg) (xs (nI i + (2 : Int32)).toNatClampNeg))
  refine good_if (fun _ => ?_) (fun _ => ?_)
  · exact gq hG (bond_s (G 0) hR hW (xs (nI i + (1 : Int32)).toNatClampNeg) (xs (nI i + (2 : Int32)).toNatClampNeg)) (bond6_s hM hW (xs (nI i + (1 : Int32)).toNatClampNeg) (xs (nI i + (2 : Int32)).toNatClampNeg))
  refine good_if (fun _ => ?_) (fun _ => ?_)
  · exact gq hG (forger_s (G 0) hR hW (xs (nI i + (1 : Int32)).toNatClampNeg)) (forger6_s hM hW (xs (nI i + (1 : Int32)).toNatClampNeg))
  refine good_if (fun _ => ?_) (fun _ => ?_)
  · obtain ⟨v', e1, e2⟩ := paint_s (G 0) hR hW (xs (nI i + (1 : Int32)).toNatClampNeg) (xs (nI i + (2 : Int32)).toNatClampNeg)
    obtain ⟨w', f1, f2, f3⟩ := paint6_s hM hW (xs (nI i + (1 : Int32)).toNatClampNeg) (xs (nI i + (2 : Int32)).toNatClampNeg)
    exact gs (fun s => mkG (G 0) s (G 2) (G 3) (G 4) (G 5) (G 6) (G 7) (G 8) (G 9) (G 10) (G 11) (G 12)) e1 f1 (mkR (R_str h10 hO e2 (siA_ok hW hd (xs (nI i + (1 : Int32)).toNatClampNeg) (xs (nI i + (2 : Int32)).toNatClampNeg)) f2 f3))
  refine good_if (fun _ => ?_) (fun _ => ?_)
  · obtain ⟨v', e1, e2⟩ := scrape_s (G 0) hR hW (xs (nI i + (1 : Int32)).toNatClampNeg)
    obtain ⟨w', f1, f2, f3⟩ := scrape6_s hM hW (xs (nI i + (1 : Int32)).toNatClampNeg)
    exact gs (fun s => mkG (G 0) s (G 2) (G 3) (G 4) (G 5) (G 6) (G 7) (G 8) (G 9) (G 10) (G 11) (G 12)) e1 f1 (mkR (R_str h10 hO e2 (scA_ok hW hd (xs (nI i + (1 : Int32)).toNatClampNeg)) f2 f3))
  refine good_if (fun _ => ?_) (fun _ => ?_)
  · obtain ⟨v', e1, e2⟩ := alter_s (G 0) hR hW (xs (nI i + (1 : Int32)).toNatClampNeg) (xs (nI i + (2 : Int32)).toNatClampNeg) (xs (nI i + (3 : Int32)).toNatClampNeg)
    obtain ⟨w', f1, f2, f3⟩ := alter6_s hM hW (xs (nI i + (1 : Int32)).toNatClampNeg) (xs (nI i + (2 : Int32)).toNatClampNeg) (xs (nI i + (3 : Int32)).toNatClampNeg)
    exact gs (fun s => mkG (G 0) s (G 2) (G 3) (G 4) (G 5) (G 6) (G 7) (G 8) (G 9) (G 10) (G 11) (G 12)) e1 f1 (mkR (R_str h10 hO e2 (alA_ok hW hd (xs (nI i + (1 : Int32)).toNatClampNeg) (xs (nI i + (2 : Int32)).toNatClampNeg) (xs (nI i + (3 : Int32)).toNatClampNeg)) f2 f3))
  refine good_if (fun _ => ?_) (fun _ => ?_)
  · obtain ⟨v', e1, e2⟩ := worth_s (G 0) hR hW (xs (nI i + (1 : Int32)).toNatClampNeg) (xs (nI i + (2 : Int32)).toNatClampNeg)
    obtain ⟨w', f1, f2, f3⟩ := worth6_s hM hW (xs (nI i + (1 : Int32)).toNatClampNeg) (xs (nI i + (2 : Int32)).toNatClampNeg)
    exact gs (fun s => mkG (G 0) s (G 2) (G 3) (G 4) (G 5) (G 6) (G 7) (G 8) (G 9) (G 10) (G 11) (G 12)) e1 f1 (mkR (R_str h10 hO e2 (woA_ok hW hd (xs (nI i + (1 : Int32)).toNatClampNeg) (xs (nI i + (2 : Int32)).toNatClampNeg)) f2 f3))
  refine good_if (fun _ => ?_) (fun _ => ?_)
  · exact gq hG (like_s (G 0) hR hW (xs (nI i + (1 : Int32)).toNatClampNeg) (xs (nI i + (2 : Int32)).toNatClampNeg)) (like6_s hM hW (xs (nI i + (1 : Int32)).toNatClampNeg) (xs (nI i + (2 : Int32)).toNatClampNeg))
  refine good_if (fun _ => ?_) (fun _ => ?_)
  · obtain ⟨v', e1, e2⟩ := go_s (G 0) hR hW (xs (nI i + (1 : Int32)).toNatClampNeg)
    obtain ⟨w', f1, f2, f3⟩ := go6_s hM hW (xs (nI i + (1 : Int32)).toNatClampNeg)
    exact gs (fun s => mkG (G 0) s (G 2) (G 3) (G 4) (G 5) (G 6) (G 7) (G 8) (G 9) (G 10) (G 11) (G 12)) e1 f1 (mkR (R_str h10 hO e2 (goA_ok hW hd (xs (nI i + (1 : Int32)).toNatClampNeg)) f2 f3))
  refine good_if (fun _ => ?_) (fun _ => ?_)
  · obtain ⟨v', e1⟩ := ahead_s (G 0) (G 2) hR hW hd (xs (nI i + (1 : Int32)).toNatClampNeg) (xs (nI i + (2 : Int32)).toNatClampNeg) (xs (nI i + (3 : Int32)).toNatClampNeg)
    obtain ⟨w', f1, f2⟩ := ahead6_s hM hW hd (xs (nI i + (1 : Int32)).toNatClampNeg) (xs (nI i + (2 : Int32)).toNatClampNeg) (xs (nI i + (3 : Int32)).toNatClampNeg)
    exact gs (fun s => mkG (G 0) (G 1) s (G 3) (G 4) (G 5) (G 6) (G 7) (G 8) (G 9) (G 10) (G 11) (G 12)) e1 f1 (mkR (R_kp h10 hO hR hW hd hM f2 rfl rfl))
  refine good_if (fun _ => ?_) (fun _ => ?_)
  · obtain ⟨v', e1⟩ := when_s (G 0) (G 2) hR hW hd (xs (nI i + (1 : Int32)).toNatClampNeg) (xs (nI i + (2 : Int32)).toNatClampNeg)
    obtain ⟨w', f1, f2⟩ := when6_s hM hW hd (xs (nI i + (1 : Int32)).toNatClampNeg) (xs (nI i + (2 : Int32)).toNatClampNeg)
    exact gs (fun s => mkG (G 0) (G 1) s (G 3) (G 4) (G 5) (G 6) (G 7) (G 8) (G 9) (G 10) (G 11) (G 12)) e1 f1 (mkR (R_kp h10 hO hR hW hd hM f2 rfl rfl))
  refine good_if (fun _ => ?_) (fun _ => ?_)
  · obtain ⟨v0', v', e1, e2⟩ := even_s (G 0) (G 2) hR hW hd
    obtain ⟨w', f1, f2⟩ := even6_s hM hW hd
    exact gs (fun s : SV × SV => mkG s.1 (G 1) s.2 (G 3) (G 4) (G 5) (G 6) (G 7) (G 8) (G 9) (G 10) (G 11) (G 12)) e1 f1 (mkR (R_kp h10 hO hR hW hd hM f2 (e2 4 (by decide)) (congrFun (e2 0 (by decide)) 10)))
  refine good_if (fun _ => ?_) (fun _ => ?_)
  · obtain ⟨a, v', w', e1, e2, e3, e4⟩ := many_b (v0 := G 0) hR hW hM o3 h10 
    exact gs (fun s => mkG (G 0) (G 1) (G 2) (G 3) (G 4) (G 5) (G 6) (G 7) s (G 9) (G 10) (G 11) (G 12)) e1 e2 (mkR (R_kp e3 hO hR hW hd hM e4 rfl rfl))
  refine good_if (fun _ => ?_) (fun _ => ?_)
  · obtain ⟨a, v', w', e1, e2, e3, e4⟩ := mend_b (v0 := G 0) hR hW hM o3 h10 (xs (nI i + (1 : Int32)).toNatClampNeg)
    exact gs (fun s => mkG (G 0) (G 1) (G 2) (G 3) (G 4) (G 5) (G 6) (G 7) s (G 9) (G 10) (G 11) (G 12)) e1 e2 (mkR (R_kp e3 hO hR hW hd hM e4 rfl rfl))
  refine good_if (fun _ => ?_) (fun _ => ?_)
  · obtain ⟨a, v', w', e1, e2, e3, e4⟩ := cheap_b (v0 := G 0) hR hW hM o3 h10 (xs (nI i + (1 : Int32)).toNatClampNeg) (xs (nI i + (2 : Int32)).toNatClampNeg)
    exact gs (fun s => mkG (G 0) (G 1) (G 2) (G 3) (G 4) (G 5) (G 6) (G 7) s (G 9) (G 10) (G 11) (G 12)) e1 e2 (mkR (R_kp e3 hO hR hW hd hM e4 rfl rfl))
  refine good_if (fun _ => ?_) (fun _ => ?_)
  · obtain ⟨v', e1⟩ := next_s (G 0) (G 2) hR hW (xs (nI i + (1 : Int32)).toNatClampNeg)
    obtain ⟨w', f1, f2⟩ := next6_s hM hW (xs (nI i + (1 : Int32)).toNatClampNeg)
    exact gs (fun s => mkG (G 0) (G 1) s (G 3) (G 4) (G 5) (G 6) (G 7) (G 8) (G 9) (G 10) (G 11) (G 12)) e1 f1 (mkR (R_kp h10 hO hR hW hd hM f2 rfl rfl))
  refine good_if (fun _ => ?_) (fun _ => ?_)
  · exact gq hG (value_s (G 0) hR hW (xs (nI i + (1 : Int32)).toNatClampNeg)) (value6_s hM hW (xs (nI i + (1 : Int32)).toNatClampNeg))
  refine good_if (fun _ => ?_) (fun _ => ?_)
  · exact gl hG (share_s (G 0) hR hW (xs (nI i + (1 : Int32)).toNatClampNeg) (xs (nI i + (2 : Int32)).toNatClampNeg)) (share6_s hM hW (xs (nI i + (1 : Int32)).toNatClampNeg) (xs (nI i + (2 : Int32)).toNatClampNeg))
  refine good_if (fun _ => ?_) (fun _ => ?_)
  · obtain ⟨a, e1, e2⟩ := looks_b (G 0) hR hM hW (xs (nI i + (1 : Int32)).toNatClampNeg)
    exact gq hG e1 e2
  refine good_if (fun _ => ?_) (fun _ => ?_)
  · obtain ⟨a, e1, e2⟩ := alive_b (G 0) hR hM hW (xs (nI i + (1 : Int32)).toNatClampNeg) (xs (nI i + (2 : Int32)).toNatClampNeg)
    exact gl hG e1 e2
  refine good_if (fun _ => ?_) (fun _ => ?_)
  · obtain ⟨a, e1, e2⟩ := mean_b (G 0) hR hM hW (xs (nI i + (1 : Int32)).toNatClampNeg) (xs (nI i + (2 : Int32)).toNatClampNeg)
    exact gl hG e1 e2
  refine good_if (fun _ => ?_) (fun _ => ?_)
  · refine good_if (fun hc => ?_) (fun hc => ?_)
    · obtain ⟨a, v', w', S', e1, e2, e3, e4⟩ := hsee false
      unfold m_L_law_J999
      dsimp only
      simp only [hb1, hb2, hb3, ck_true]
      rw [show m_X5_see (G 0) (G 1) (G 7) (xs (nI i + (1 : Int32)).toNatClampNeg) (xs (nI i + (2 : Int32)).toNatClampNeg) (0 : Int32) = some (a, v') from e1, some_bind]
      dsimp only
      rw [if_pos hc]
      unfold m_L_law_J1026
      dsimp only
      rw [show m_X6_see w (xs (nI i + (1 : Int32)).toNatClampNeg) (xs (nI i + (2 : Int32)).toNatClampNeg) (0 : Int32) = some (a, w') from e2, some_bind]
      dsimp +instances only
      rw [if_pos rfl, i5]
      exact ⟨_, _, rfl, mkR (R_seen h10 hR hW hd hM hO e3 e4)⟩
    · obtain ⟨a, v', w', S', e1, e2, e3, e4⟩ := hsee true
      unfold m_L_law_J999
      dsimp only
      simp only [hb1, hb2, hb3, ck_true]
      rw [show m_X5_see (G 0) (G 1) (G 7) (xs (nI i + (1 : Int32)).toNatClampNeg) (xs (nI i + (2 : Int32)).toNatClampNeg) (1 : Int32) = some (a, v') from e1, some_bind]
      dsimp only
      rw [if_neg hc]
      unfold m_L_law_J1026
      dsimp only
      rw [show m_X6_see w (xs (nI i + (1 : Int32)).toNatClampNeg) (xs (nI i + (2 : Int32)).toNatClampNeg) (1 : Int32) = some (a, w') from e2, some_bind]
      dsimp +instances only
      rw [if_pos rfl, i5]
      exact ⟨_, _, rfl, mkR (R_seen h10 hR hW hd hM hO e3 e4)⟩
  refine good_if (fun _ => ?_) (fun _ => ?_)
  · obtain ⟨a, v', w', S', e1, e2, e3, e4⟩ := forget_b (G 0) o3 (xs (nI i + (1 : Int32)).toNatClampNeg)
    exact gs (fun s => mkG (G 0) (G 1) (G 2) (G 3) (G 4) (G 5) (G 6) s (G 8) (G 9) (G 10) (G 11) (G 12)) e1 e2 (mkR (R_seen h10 hR hW hd hM hO e3 e4))
  refine good_if (fun _ => ?_) (fun _ => ?_)
  · obtain ⟨a, v', w', e1, e2, e3, e4⟩ := fits_b (v0 := G 0) hR hW hM o3 h10 (xs (nI i + (1 : Int32)).toNatClampNeg)
    exact gs (fun s => mkG (G 0) (G 1) (G 2) (G 3) (G 4) (G 5) (G 6) (G 7) s (G 9) (G 10) (G 11) (G 12)) e1 e2 (mkR (R_kp e3 hO hR hW hd hM e4 rfl rfl))
  refine good_if (fun _ => ?_) (fun _ => ?_)
  · obtain ⟨a, v0', v', w', e1, e2, e5, e3, e4⟩ := ask_b (v0 := G 0) hR hW hM o3 h10 (xs (nI i + (1 : Int32)).toNatClampNeg)
    exact gs (fun s : SV × SV => mkG s.1 (G 1) (G 2) (G 3) (G 4) (G 5) (G 6) (G 7) s.2 (G 9) (G 10) (G 11) (G 12)) e1 e2 (mkR (R_kp e3 hO hR hW hd hM e4 (e5 4 (by decide)) (congrFun (e5 0 (by decide)) 10)))
  refine good_if (fun _ => ?_) (fun _ => ?_)
  · obtain ⟨v', e1⟩ := drift_s (G 0) (G 2) hR hW (xs (nI i + (1 : Int32)).toNatClampNeg) (xs (nI i + (2 : Int32)).toNatClampNeg) (xs (nI i + (3 : Int32)).toNatClampNeg)
    obtain ⟨w', f1, f2⟩ := drift6_s hM hW (xs (nI i + (1 : Int32)).toNatClampNeg) (xs (nI i + (2 : Int32)).toNatClampNeg) (xs (nI i + (3 : Int32)).toNatClampNeg)
    exact gs (fun s => mkG (G 0) (G 1) s (G 3) (G 4) (G 5) (G 6) (G 7) (G 8) (G 9) (G 10) (G 11) (G 12)) e1 f1 (mkR (R_kp h10 hO hR hW hd hM f2 rfl rfl))
  refine good_if (fun _ => ?_) (fun _ => ?_)
  · obtain ⟨a, v0', V', w', kp', e1, e2, e3, e4, e5, e6⟩ := keep_b hR hW hd hM hI (xs (nI i + (1 : Int32)).toNatClampNeg)
    exact gs (fun s : SV × SV × SV => mkG s.1 (G 1) (G 2) s.2.1 s.2.2 (G 5) (G 6) (G 7) (G 8) (G 9) (G 10) (G 11) (G 12)) e1 e2 (mkR (R_keep h10 hR hW hd hO e4 (e3 0 (by omega)) (e3 1 (by omega)) e5 e6))
  refine good_if (fun _ => ?_) (fun _ => ?_)
  · obtain ⟨a, v1', w', A', e1, e2, g1, g2, g3, g4, g5, g6⟩ := back_b hR hW hd hM hI (xs (nI i + (1 : Int32)).toNatClampNeg)
    exact gs (fun s => mkG (G 0) s (G 2) (G 3) (G 4) (G 5) (G 6) (G 7) (G 8) (G 9) (G 10) (G 11) (G 12)) e1 e2 (mkR (R_str h10 hO g1 ⟨g2, g3, g5⟩ g4 g6))
  refine good_if (fun _ => ?_) (fun _ => ?_)
  · obtain ⟨a, V', w', e1, e2, e3, e4⟩ := sheet_b (G 0) hSh (xs (nI i + (1 : Int32)).toNatClampNeg) (xs (nI i + (2 : Int32)).toNatClampNeg) (xs (nI i + (3 : Int32)).toNatClampNeg)
    exact gs (fun s : SV × SV × SV × SV => mkG (G 0) (G 1) (G 2) (G 3) (G 4) (G 5) (G 6) (G 7) (G 8) s.1 s.2.1 s.2.2.1 s.2.2.2) e1 e2 (mkR (R_sheet h10 hR hW hd hM hO (e3 0 (by omega)) (e3 1 (by omega)) (e3 2 (by omega)) (e3 3 (by omega)) e4))
  refine good_if (fun _ => ?_) (fun _ => ?_)
  · obtain ⟨a, V', w', e1, e2, e3, e4⟩ := lay_b (G 0) hSh (xs (nI i + (1 : Int32)).toNatClampNeg) (xs (nI i + (2 : Int32)).toNatClampNeg) (xs (nI i + (3 : Int32)).toNatClampNeg)
    exact gs (fun s : SV × SV × SV × SV => mkG (G 0) (G 1) (G 2) (G 3) (G 4) (G 5) (G 6) (G 7) (G 8) s.1 s.2.1 s.2.2.1 s.2.2.2) e1 e2 (mkR (R_sheet h10 hR hW hd hM hO (e3 0 (by omega)) (e3 1 (by omega)) (e3 2 (by omega)) (e3 3 (by omega)) e4))
  refine good_if (fun _ => ?_) (fun _ => ?_)
  · obtain ⟨a, v0', v1', v2', w', A', e1, e2, g1, g2, g3, g4, g5, g6, g7, g8⟩ := read_b (v2 := G 2) hR hW hM o10 hSh (xs (nI i + (1 : Int32)).toNatClampNeg) (xs (nI i + (2 : Int32)).toNatClampNeg) (xs (nI i + (3 : Int32)).toNatClampNeg) (xs (nI i + (4 : Int32)).toNatClampNeg)
    exact gs (fun s : SV × SV × SV => mkG s.1 s.2.1 s.2.2 (G 3) (G 4) (G 5) (G 6) (G 7) (G 8) (G 9) (G 10) (G 11) (G 12)) e1 e2 (mkR (R_read h10 hd hO g1 g2 g3 g4 g5 g6 g7 g8))
  refine good_if (fun _ => ?_) (fun _ => ?_)
  · exact gq hG (a := G 0 0 10) rfl (by unfold m_X6_torn; rw [o10])
  refine good_if (fun _ => ?_) (fun _ => ?_)
  · obtain ⟨a, e1, e2⟩ := count_b (v6 := G 6) hR hW hM o1 o3 hI o6 (xs (nI i + (1 : Int32)).toNatClampNeg)
    exact gq hG e1 e2
  rw [i5]
  exact ⟨_, _, rfl, hG⟩
