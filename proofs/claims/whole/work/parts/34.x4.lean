section
variable {Xs : Nat × (Nat → Int32)} {hx hm : Nat → Nat → Int32} {g : Nat → Nat → Int64} {S : am_S}
/-- SixHands$Laws.isSo(LSixHands$Text;I)Z [59, 't'] -/
def zL_isSo_J159 (k32 : Nat → Int32 → Int32 → Int32 → (Nat → Nat → Int32) → Option (Int32 × (Nat → Nat → Int32))) (v1 : Nat) (v3 : Int32) (v4 : Int32) (v5 : Int32) (v7 : Int32) (h : (Nat → Nat → Int32)) : Option (Int32 × (Nat → Nat → Int32)) := if v7 < 0 then (k32 v1 v3 v4 (v5 + 1) h) else (if 1 < v3 then (am_b (v3 + (-1)) fun x30 => am_ix 64 (x30 - 1) (am_ix 64 x30 ((zL_reckon v7 (h 61 ((x30 - 1).toNatClampNeg)) (h 61 (x30.toNatClampNeg))).bind fun r33 => am_ix 64 (x30 - 1) (am_b (va_up h 61 (upd (h 61) ((x30 - 1).toNatClampNeg) r33)) fun h35 => k32 v1 x30 v4 (v5 + 1) h35)))) else (k32 v1 v3 v4 (v5 + 1) h))
set_option maxRecDepth 20000 in
theorem ezL_isSo_J159 {d : Nat} (hd : 3 ≤ d) (R : Int32 × (Nat → Nat → Int32)) (k32 : Nat → Int32 → Int32 → Int32 → (Nat → Nat → Int32) → Option (Int32 × (Nat → Nat → Int32))) (hk32 : ∀ (v1 : Nat) (v3 : Int32) (v4 : Int32) (v5 : Int32) (h : (Nat → Nat → Int32)), zK v1 → k32 v1 v3 v4 v5 h = some R → am_Rn 83 Xs am_P d 28 (32, [(0, .ref 59), (1, .ref v1), (3, .int v3), (4, .int v4), (5, .int v5)], []) (am_sh, h, hm, g) (some (.int R.1), (am_sh, R.2, hm, g))) (v1 : Nat) (v3 : Int32) (v4 : Int32) (v5 : Int32) (v7 : Int32) (h : (Nat → Nat → Int32)) (hk_v1 : zK v1) (hp : zL_isSo_J159 k32 v1 v3 v4 v5 v7 h = some R) : am_Rn 83 Xs am_P d 28 (159, [(0, .ref 59), (1, .ref v1), (3, .int v3), (4, .int v4), (5, .int v5), (7, .int v7)], []) (am_sh, h, hm, g) (some (.int R.1), (am_sh, R.2, hm, g)) := by
  obtain ⟨d, rfl⟩ : ∃ k, d = k + 1 := ⟨d - 1, by omega⟩
  unfold zL_isSo_J159 at hp
  refine am_Rn.run am_h28 1 (F' := (161, [(0, .ref 59), (1, .ref v1), (3, .int v3), (4, .int v4), (5, .int v5), (7, .int v7)], [.int v7])) (S' := (am_sh, h, hm, g)) (by rcases hk_v1 with rfl | rfl | rfl | rfl | rfl <;> rfl) ?_
  refine am_Rn.ite am_h28 (c := v7 < 0) (t := 199) (f := 164) (lv := [(0, .ref 59), (1, .ref v1), (3, .int v3), (4, .int v4), (5, .int v5), (7, .int v7)]) (st := []) (S' := (am_sh, h, hm, g)) (by rcases hk_v1 with rfl | rfl | rfl | rfl | rfl <;> rfl) hp (fun hc28 hp => ?_) (fun hc28 hp => ?_)
  · refine am_Rn.run am_h28 2 (F' := (32, [(5, .int (v5 + 1)), (0, .ref 59), (1, .ref v1), (3, .int v3), (4, .int v4), (7, .int v7)], [])) (S' := (am_sh, h, hm, g)) (by rcases hk_v1 with rfl | rfl | rfl | rfl | rfl <;> rfl) ?_
    refine am_Rn.sub [1, 2, 3, 4, 0] rfl rfl ?_
    exact hk32 v1 v3 v4 (v5 + 1) h hk_v1 hp
  · refine am_Rn.run am_h28 2 (F' := (166, [(0, .ref 59), (1, .ref v1), (3, .int v3), (4, .int v4), (5, .int v5), (7, .int v7)], [.int 1, .int v3])) (S' := (am_sh, h, hm, g)) (by rcases hk_v1 with rfl | rfl | rfl | rfl | rfl <;> rfl) ?_
    refine am_Rn.ite am_h28 (c := 1 < v3) (t := 169) (f := 199) (lv := [(0, .ref 59), (1, .ref v1), (3, .int v3), (4, .int v4), (5, .int v5), (7, .int v7)]) (st := []) (S' := (am_sh, h, hm, g)) (by rcases hk_v1 with rfl | rfl | rfl | rfl | rfl <;> rfl) hp (fun hc29 hp => ?_) (fun hc29 hp => ?_)
    · obtain ⟨x30, h_x30, hp⟩ := am_b_e hp
      refine am_Rn.run am_h28 12 (F' := (188, [(3, .int x30), (0, .ref 59), (1, .ref v1), (4, .int v4), (5, .int v5), (7, .int v7)], [.int (x30 - 1), .ref 61, .int v7, .int (x30 - 1), .ref 61])) (S' := (am_sh, h, hm, g)) (by subst h_x30; rcases hk_v1 with rfl | rfl | rfl | rfl | rfl <;> rfl) ?_
      obtain ⟨hn31, hp⟩ := am_ix_e hp
      refine am_Rn.stepG am_h28 (c := (x30 - 1) < 0 ∨ 64 ≤ (x30 - 1).toNatClampNeg) (F' := (189, [(3, .int x30), (0, .ref 59), (1, .ref v1), (4, .int v4), (5, .int v5), (7, .int v7)], [.int (h 61 ((x30 - 1).toNatClampNeg)), .int v7, .int (x30 - 1), .ref 61])) (S' := (am_sh, h, hm, g)) (by rcases hk_v1 with rfl | rfl | rfl | rfl | rfl <;> rfl) hn31 ?_
      refine am_Rn.run am_h28 3 (F' := (194, [(3, .int x30), (0, .ref 59), (1, .ref v1), (4, .int v4), (5, .int v5), (7, .int v7)], [.int x30, .ref 61, .int (h 61 ((x30 - 1).toNatClampNeg)), .int v7, .int (x30 - 1), .ref 61])) (S' := (am_sh, h, hm, g)) (by rcases hk_v1 with rfl | rfl | rfl | rfl | rfl <;> rfl) ?_
      obtain ⟨hn32, hp⟩ := am_ix_e hp
      refine am_Rn.stepG am_h28 (c := x30 < 0 ∨ 64 ≤ x30.toNatClampNeg) (F' := (195, [(3, .int x30), (0, .ref 59), (1, .ref v1), (4, .int v4), (5, .int v5), (7, .int v7)], [.int (h 61 (x30.toNatClampNeg)), .int (h 61 ((x30 - 1).toNatClampNeg)), .int v7, .int (x30 - 1), .ref 61])) (S' := (am_sh, h, hm, g)) (by rcases hk_v1 with rfl | rfl | rfl | rfl | rfl <;> rfl) hn32 ?_
      obtain ⟨r33, h_r33, hp⟩ := am_bind hp
      refine am_Rn.call am_h28 (mj := 29) (As := [.int v7, .int (h 61 ((x30 - 1).toNatClampNeg)), .int (h 61 (x30.toNatClampNeg))]) (F' := (198, [(3, .int x30), (0, .ref 59), (1, .ref v1), (4, .int v4), (5, .int v5), (7, .int v7)], [.int (x30 - 1), .ref 61])) (M' := am_m29) (r := some (.int r33)) (S1 := (am_sh, h, hm, g)) (by rcases hk_v1 with rfl | rfl | rfl | rfl | rfl <;> rfl) am_h29 rfl (ezL_reckon (by omega) v7 (h 61 ((x30 - 1).toNatClampNeg)) (h 61 (x30.toNatClampNeg)) _ h_r33) ?_
      obtain ⟨hn34, hp⟩ := am_ix_e hp
      obtain ⟨h35, h_h35, hp⟩ := am_b_e hp
      refine am_Rn.stepG am_h28 (c := (x30 - 1) < 0 ∨ 64 ≤ (x30 - 1).toNatClampNeg) (F' := (199, [(3, .int x30), (0, .ref 59), (1, .ref v1), (4, .int v4), (5, .int v5), (7, .int v7)], [])) (S' := (am_sh, h35, hm, g)) (by subst h_h35; rcases hk_v1 with rfl | rfl | rfl | rfl | rfl <;> rfl) hn34 ?_
      refine am_Rn.run am_h28 2 (F' := (32, [(5, .int (v5 + 1)), (3, .int x30), (0, .ref 59), (1, .ref v1), (4, .int v4), (7, .int v7)], [])) (S' := (am_sh, h35, hm, g)) (by rcases hk_v1 with rfl | rfl | rfl | rfl | rfl <;> rfl) ?_
      refine am_Rn.sub [2, 3, 1, 4, 0] rfl rfl ?_
      exact hk32 v1 x30 v4 (v5 + 1) h35 hk_v1 hp
    · refine am_Rn.run am_h28 2 (F' := (32, [(5, .int (v5 + 1)), (0, .ref 59), (1, .ref v1), (3, .int v3), (4, .int v4), (7, .int v7)], [])) (S' := (am_sh, h, hm, g)) (by rcases hk_v1 with rfl | rfl | rfl | rfl | rfl <;> rfl) ?_
      refine am_Rn.sub [1, 2, 3, 4, 0] rfl rfl ?_
      exact hk32 v1 v3 v4 (v5 + 1) h hk_v1 hp
def zL_isSo_J116 (k32 : Nat → Int32 → Int32 → Int32 → (Nat → Nat → Int32) → Option (Int32 × (Nat → Nat → Int32))) (v1 : Nat) (v3 : Int32) (v4 : Int32) (v5 : Int32) (v7 : Int32) (h : (Nat → Nat → Int32)) : Option (Int32 × (Nat → Nat → Int32)) := if 0 < v3 then (if v7 = 2 then (am_ix 64 (v3 - 1) (am_ix 64 (v3 - 1) (am_b (va_up h 61 (upd (h 61) ((v3 - 1).toNatClampNeg) (1 - (h 61 ((v3 - 1).toNatClampNeg))))) fun h24 => k32 v1 v3 v4 (v5 + 1) h24))) else (am_ix 64 (v3 - 1) (am_ix 64 (v3 - 1) (am_b (va_up h 61 (upd (h 61) ((v3 - 1).toNatClampNeg) (-(h 61 ((v3 - 1).toNatClampNeg))))) fun h27 => k32 v1 v3 v4 (v5 + 1) h27)))) else (zL_isSo_J159 k32 v1 v3 v4 v5 v7 h)
set_option maxRecDepth 20000 in
theorem ezL_isSo_J116 {d : Nat} (hd : 3 ≤ d) (R : Int32 × (Nat → Nat → Int32)) (k32 : Nat → Int32 → Int32 → Int32 → (Nat → Nat → Int32) → Option (Int32 × (Nat → Nat → Int32))) (hk32 : ∀ (v1 : Nat) (v3 : Int32) (v4 : Int32) (v5 : Int32) (h : (Nat → Nat → Int32)), zK v1 → k32 v1 v3 v4 v5 h = some R → am_Rn 83 Xs am_P d 28 (32, [(0, .ref 59), (1, .ref v1), (3, .int v3), (4, .int v4), (5, .int v5)], []) (am_sh, h, hm, g) (some (.int R.1), (am_sh, R.2, hm, g))) (v1 : Nat) (v3 : Int32) (v4 : Int32) (v5 : Int32) (v7 : Int32) (h : (Nat → Nat → Int32)) (hk_v1 : zK v1) (hp : zL_isSo_J116 k32 v1 v3 v4 v5 v7 h = some R) : am_Rn 83 Xs am_P d 28 (116, [(0, .ref 59), (1, .ref v1), (3, .int v3), (4, .int v4), (5, .int v5), (7, .int v7)], []) (am_sh, h, hm, g) (some (.int R.1), (am_sh, R.2, hm, g)) := by
  obtain ⟨d, rfl⟩ : ∃ k, d = k + 1 := ⟨d - 1, by omega⟩
  unfold zL_isSo_J116 at hp
  refine am_Rn.run am_h28 1 (F' := (117, [(0, .ref 59), (1, .ref v1), (3, .int v3), (4, .int v4), (5, .int v5), (7, .int v7)], [.int v3])) (S' := (am_sh, h, hm, g)) (by rcases hk_v1 with rfl | rfl | rfl | rfl | rfl <;> rfl) ?_
  refine am_Rn.ite am_h28 (c := 0 < v3) (t := 120) (f := 159) (lv := [(0, .ref 59), (1, .ref v1), (3, .int v3), (4, .int v4), (5, .int v5), (7, .int v7)]) (st := []) (S' := (am_sh, h, hm, g)) (by rcases hk_v1 with rfl | rfl | rfl | rfl | rfl <;> rfl) hp (fun hc20 hp => ?_) (fun hc20 hp => ?_)
  · refine am_Rn.run am_h28 7 (F' := (130, [(0, .ref 59), (1, .ref v1), (3, .int v3), (4, .int v4), (5, .int v5), (7, .int v7)], [.int 2, .int v7, .int (v3 - 1), .ref 61])) (S' := (am_sh, h, hm, g)) (by rcases hk_v1 with rfl | rfl | rfl | rfl | rfl <;> rfl) ?_
    refine am_Rn.ite am_h28 (c := v7 = 2) (t := 133) (f := 146) (lv := [(0, .ref 59), (1, .ref v1), (3, .int v3), (4, .int v4), (5, .int v5), (7, .int v7)]) (st := [.int (v3 - 1), .ref 61]) (S' := (am_sh, h, hm, g)) (by rcases hk_v1 with rfl | rfl | rfl | rfl | rfl <;> rfl) hp (fun hc21 hp => ?_) (fun hc21 hp => ?_)
    · refine am_Rn.run am_h28 6 (F' := (141, [(0, .ref 59), (1, .ref v1), (3, .int v3), (4, .int v4), (5, .int v5), (7, .int v7)], [.int (v3 - 1), .ref 61, .int 1, .int (v3 - 1), .ref 61])) (S' := (am_sh, h, hm, g)) (by rcases hk_v1 with rfl | rfl | rfl | rfl | rfl <;> rfl) ?_
      obtain ⟨hn22, hp⟩ := am_ix_e hp
      refine am_Rn.stepG am_h28 (c := (v3 - 1) < 0 ∨ 64 ≤ (v3 - 1).toNatClampNeg) (F' := (142, [(0, .ref 59), (1, .ref v1), (3, .int v3), (4, .int v4), (5, .int v5), (7, .int v7)], [.int (h 61 ((v3 - 1).toNatClampNeg)), .int 1, .int (v3 - 1), .ref 61])) (S' := (am_sh, h, hm, g)) (by rcases hk_v1 with rfl | rfl | rfl | rfl | rfl <;> rfl) hn22 ?_
      refine am_Rn.run am_h28 2 (F' := (155, [(0, .ref 59), (1, .ref v1), (3, .int v3), (4, .int v4), (5, .int v5), (7, .int v7)], [.int (1 - (h 61 ((v3 - 1).toNatClampNeg))), .int (v3 - 1), .ref 61])) (S' := (am_sh, h, hm, g)) (by rcases hk_v1 with rfl | rfl | rfl | rfl | rfl <;> rfl) ?_
      obtain ⟨hn23, hp⟩ := am_ix_e hp
      obtain ⟨h24, h_h24, hp⟩ := am_b_e hp
      refine am_Rn.stepG am_h28 (c := (v3 - 1) < 0 ∨ 64 ≤ (v3 - 1).toNatClampNeg) (F' := (156, [(0, .ref 59), (1, .ref v1), (3, .int v3), (4, .int v4), (5, .int v5), (7, .int v7)], [])) (S' := (am_sh, h24, hm, g)) (by subst h_h24; rcases hk_v1 with rfl | rfl | rfl | rfl | rfl <;> rfl) hn23 ?_
      refine am_Rn.run am_h28 3 (F' := (32, [(5, .int (v5 + 1)), (0, .ref 59), (1, .ref v1), (3, .int v3), (4, .int v4), (7, .int v7)], [])) (S' := (am_sh, h24, hm, g)) (by rcases hk_v1 with rfl | rfl | rfl | rfl | rfl <;> rfl) ?_
      refine am_Rn.sub [1, 2, 3, 4, 0] rfl rfl ?_
      exact hk32 v1 v3 v4 (v5 + 1) h24 hk_v1 hp
    · refine am_Rn.run am_h28 5 (F' := (153, [(0, .ref 59), (1, .ref v1), (3, .int v3), (4, .int v4), (5, .int v5), (7, .int v7)], [.int (v3 - 1), .ref 61, .int (v3 - 1), .ref 61])) (S' := (am_sh, h, hm, g)) (by rcases hk_v1 with rfl | rfl | rfl | rfl | rfl <;> rfl) ?_
      obtain ⟨hn25, hp⟩ := am_ix_e hp
      refine am_Rn.stepG am_h28 (c := (v3 - 1) < 0 ∨ 64 ≤ (v3 - 1).toNatClampNeg) (F' := (154, [(0, .ref 59), (1, .ref v1), (3, .int v3), (4, .int v4), (5, .int v5), (7, .int v7)], [.int (h 61 ((v3 - 1).toNatClampNeg)), .int (v3 - 1), .ref 61])) (S' := (am_sh, h, hm, g)) (by rcases hk_v1 with rfl | rfl | rfl | rfl | rfl <;> rfl) hn25 ?_
      refine am_Rn.run am_h28 1 (F' := (155, [(0, .ref 59), (1, .ref v1), (3, .int v3), (4, .int v4), (5, .int v5), (7, .int v7)], [.int (-(h 61 ((v3 - 1).toNatClampNeg))), .int (v3 - 1), .ref 61])) (S' := (am_sh, h, hm, g)) (by rcases hk_v1 with rfl | rfl | rfl | rfl | rfl <;> rfl) ?_
      obtain ⟨hn26, hp⟩ := am_ix_e hp
      obtain ⟨h27, h_h27, hp⟩ := am_b_e hp
      refine am_Rn.stepG am_h28 (c := (v3 - 1) < 0 ∨ 64 ≤ (v3 - 1).toNatClampNeg) (F' := (156, [(0, .ref 59), (1, .ref v1), (3, .int v3), (4, .int v4), (5, .int v5), (7, .int v7)], [])) (S' := (am_sh, h27, hm, g)) (by subst h_h27; rcases hk_v1 with rfl | rfl | rfl | rfl | rfl <;> rfl) hn26 ?_
      refine am_Rn.run am_h28 3 (F' := (32, [(5, .int (v5 + 1)), (0, .ref 59), (1, .ref v1), (3, .int v3), (4, .int v4), (7, .int v7)], [])) (S' := (am_sh, h27, hm, g)) (by rcases hk_v1 with rfl | rfl | rfl | rfl | rfl <;> rfl) ?_
      refine am_Rn.sub [1, 2, 3, 4, 0] rfl rfl ?_
      exact hk32 v1 v3 v4 (v5 + 1) h27 hk_v1 hp
  · exact ezL_isSo_J159 hd R k32 hk32 v1 v3 v4 v5 v7 h hk_v1 hp
def zL_isSo_J103 (k32 : Nat → Int32 → Int32 → Int32 → (Nat → Nat → Int32) → Option (Int32 × (Nat → Nat → Int32))) (v1 : Nat) (v3 : Int32) (v4 : Int32) (v5 : Int32) (v7 : Int32) (h : (Nat → Nat → Int32)) : Option (Int32 × (Nat → Nat → Int32)) := if v7 = 2 then (zL_isSo_J116 k32 v1 v3 v4 v5 v7 h) else (if v7 = 38 then (zL_isSo_J116 k32 v1 v3 v4 v5 v7 h) else (zL_isSo_J159 k32 v1 v3 v4 v5 v7 h))
set_option maxRecDepth 20000 in
theorem ezL_isSo_J103 {d : Nat} (hd : 3 ≤ d) (R : Int32 × (Nat → Nat → Int32)) (k32 : Nat → Int32 → Int32 → Int32 → (Nat → Nat → Int32) → Option (Int32 × (Nat → Nat → Int32))) (hk32 : ∀ (v1 : Nat) (v3 : Int32) (v4 : Int32) (v5 : Int32) (h : (Nat → Nat → Int32)), zK v1 → k32 v1 v3 v4 v5 h = some R → am_Rn 83 Xs am_P d 28 (32, [(0, .ref 59), (1, .ref v1), (3, .int v3), (4, .int v4), (5, .int v5)], []) (am_sh, h, hm, g) (some (.int R.1), (am_sh, R.2, hm, g))) (v1 : Nat) (v3 : Int32) (v4 : Int32) (v5 : Int32) (v7 : Int32) (h : (Nat → Nat → Int32)) (hk_v1 : zK v1) (hp : zL_isSo_J103 k32 v1 v3 v4 v5 v7 h = some R) : am_Rn 83 Xs am_P d 28 (103, [(0, .ref 59), (1, .ref v1), (3, .int v3), (4, .int v4), (5, .int v5), (7, .int v7)], []) (am_sh, h, hm, g) (some (.int R.1), (am_sh, R.2, hm, g)) := by
  obtain ⟨d, rfl⟩ : ∃ k, d = k + 1 := ⟨d - 1, by omega⟩
  unfold zL_isSo_J103 at hp
  refine am_Rn.run am_h28 2 (F' := (106, [(0, .ref 59), (1, .ref v1), (3, .int v3), (4, .int v4), (5, .int v5), (7, .int v7)], [.int 2, .int v7])) (S' := (am_sh, h, hm, g)) (by rcases hk_v1 with rfl | rfl | rfl | rfl | rfl <;> rfl) ?_
  refine am_Rn.ite am_h28 (c := v7 = 2) (t := 116) (f := 109) (lv := [(0, .ref 59), (1, .ref v1), (3, .int v3), (4, .int v4), (5, .int v5), (7, .int v7)]) (st := []) (S' := (am_sh, h, hm, g)) (by rcases hk_v1 with rfl | rfl | rfl | rfl | rfl <;> rfl) hp (fun hc19 hp => ?_) (fun hc19 hp => ?_)
  · exact ezL_isSo_J116 hd R k32 hk32 v1 v3 v4 v5 v7 h hk_v1 hp
  · refine am_Rn.run am_h28 2 (F' := (113, [(0, .ref 59), (1, .ref v1), (3, .int v3), (4, .int v4), (5, .int v5), (7, .int v7)], [.int 38, .int v7])) (S' := (am_sh, h, hm, g)) (by rcases hk_v1 with rfl | rfl | rfl | rfl | rfl <;> rfl) ?_
    refine am_Rn.ite am_h28 (c := v7 = 38) (t := 116) (f := 159) (lv := [(0, .ref 59), (1, .ref v1), (3, .int v3), (4, .int v4), (5, .int v5), (7, .int v7)]) (st := []) (S' := (am_sh, h, hm, g)) (by rcases hk_v1 with rfl | rfl | rfl | rfl | rfl <;> rfl) hp (fun hc36 hp => ?_) (fun hc36 hp => ?_)
    · exact ezL_isSo_J116 hd R k32 hk32 v1 v3 v4 v5 v7 h hk_v1 hp
    · exact ezL_isSo_J159 hd R k32 hk32 v1 v3 v4 v5 v7 h hk_v1 hp
def zL_isSo_L32 : Nat → Nat → Int32 → Int32 → Int32 → (Nat → Nat → Int32) → Option (Int32 × (Nat → Nat → Int32))
  | 0, _, _, _, _, _ => none
  | n + 1, v1, v3, v4, v5, h => if v5 < v4 then (am_ix 300 v5 (am_b (h (v1 + 4) (v5.toNatClampNeg)) fun x9 => am_b (x9 - 20000) fun x10 => if x10 < 0 then (if v3 < 64 then (if x9 < 10000 then (am_ix 64 v3 (am_b (va_up h 61 (upd (h 61) (v3.toNatClampNeg) x9)) fun h15 => zL_isSo_L32 n v1 (v3 + 1) v4 (v5 + 1) h15)) else (am_ix 21 (x9 - 10000) (am_ix 64 v3 (am_b (va_up h 61 (upd (h 61) (v3.toNatClampNeg) (h 60 ((x9 - 10000).toNatClampNeg)))) fun h18 => zL_isSo_L32 n v1 (v3 + 1) v4 (v5 + 1) h18)))) else (zL_isSo_J103 (fun v1 v3 v4 v5 h => zL_isSo_L32 n v1 v3 v4 v5 h) v1 v3 v4 v5 x10 h)) else (zL_isSo_J103 (fun v1 v3 v4 v5 h => zL_isSo_L32 n v1 v3 v4 v5 h) v1 v3 v4 v5 x10 h))) else (if (h 61 0) = 0 then (some ((0, h))) else (some ((1, h))))
set_option maxRecDepth 20000 in
theorem ezL_isSo_L32 {d : Nat} (hd : 3 ≤ d) (R : Int32 × (Nat → Nat → Int32)) : ∀ (n : Nat) (v1 : Nat) (v3 : Int32) (v4 : Int32) (v5 : Int32) (h : (Nat → Nat → Int32)), zK v1 → zL_isSo_L32 n v1 v3 v4 v5 h = some R → am_Rn 83 Xs am_P d 28 (32, [(0, .ref 59), (1, .ref v1), (3, .int v3), (4, .int v4), (5, .int v5)], []) (am_sh, h, hm, g) (some (.int R.1), (am_sh, R.2, hm, g))
  | 0, _, _, _, _, _, _, hp => by cases hp
  | n + 1, v1, v3, v4, v5, h, hk_v1, hp => by
    obtain ⟨d, rfl⟩ : ∃ k, d = k + 1 := ⟨d - 1, by omega⟩
    unfold zL_isSo_L32 at hp
    refine am_Rn.run am_h28 2 (F' := (36, [(0, .ref 59), (1, .ref v1), (3, .int v3), (4, .int v4), (5, .int v5)], [.int v4, .int v5])) (S' := (am_sh, h, hm, g)) (by rcases hk_v1 with rfl | rfl | rfl | rfl | rfl <;> rfl) ?_
    refine am_Rn.ite am_h28 (c := v5 < v4) (t := 39) (f := 205) (lv := [(0, .ref 59), (1, .ref v1), (3, .int v3), (4, .int v4), (5, .int v5)]) (st := []) (S' := (am_sh, h, hm, g)) (by rcases hk_v1 with rfl | rfl | rfl | rfl | rfl <;> rfl) hp (fun hc7 hp => ?_) (fun hc7 hp => ?_)
    · refine am_Rn.run am_h28 3 (F' := (45, [(0, .ref 59), (1, .ref v1), (3, .int v3), (4, .int v4), (5, .int v5)], [.int v5, .ref (v1 + 4)])) (S' := (am_sh, h, hm, g)) (by rcases hk_v1 with rfl | rfl | rfl | rfl | rfl <;> rfl) ?_
      obtain ⟨hn8, hp⟩ := am_ix_e hp
      refine am_Rn.stepG am_h28 (c := v5 < 0 ∨ 300 ≤ v5.toNatClampNeg) (F' := (46, [(0, .ref 59), (1, .ref v1), (3, .int v3), (4, .int v4), (5, .int v5)], [.int (h (v1 + 4) (v5.toNatClampNeg))])) (S' := (am_sh, h, hm, g)) (by rcases hk_v1 with rfl | rfl | rfl | rfl | rfl <;> rfl) hn8 ?_
      obtain ⟨x9, h_x9, hp⟩ := am_b_e hp
      obtain ⟨x10, h_x10, hp⟩ := am_b_e hp
      refine am_Rn.run am_h28 6 (F' := (58, [(7, .int x10), (6, .int x9), (0, .ref 59), (1, .ref v1), (3, .int v3), (4, .int v4), (5, .int v5)], [.int x10])) (S' := (am_sh, h, hm, g)) (by subst h_x9; subst h_x10; rcases hk_v1 with rfl | rfl | rfl | rfl | rfl <;> rfl) ?_
      refine am_Rn.ite am_h28 (c := x10 < 0) (t := 61) (f := 103) (lv := [(7, .int x10), (6, .int x9), (0, .ref 59), (1, .ref v1), (3, .int v3), (4, .int v4), (5, .int v5)]) (st := []) (S' := (am_sh, h, hm, g)) (by rcases hk_v1 with rfl | rfl | rfl | rfl | rfl <;> rfl) hp (fun hc11 hp => ?_) (fun hc11 hp => ?_)
      · refine am_Rn.run am_h28 2 (F' := (64, [(7, .int x10), (6, .int x9), (0, .ref 59), (1, .ref v1), (3, .int v3), (4, .int v4), (5, .int v5)], [.int 64, .int v3])) (S' := (am_sh, h, hm, g)) (by rcases hk_v1 with rfl | rfl | rfl | rfl | rfl <;> rfl) ?_
        refine am_Rn.ite am_h28 (c := v3 < 64) (t := 67) (f := 103) (lv := [(7, .int x10), (6, .int x9), (0, .ref 59), (1, .ref v1), (3, .int v3), (4, .int v4), (5, .int v5)]) (st := []) (S' := (am_sh, h, hm, g)) (by rcases hk_v1 with rfl | rfl | rfl | rfl | rfl <;> rfl) hp (fun hc12 hp => ?_) (fun hc12 hp => ?_)
        · refine am_Rn.run am_h28 5 (F' := (77, [(7, .int x10), (6, .int x9), (0, .ref 59), (1, .ref v1), (3, .int v3), (4, .int v4), (5, .int v5)], [.int 10000, .int x9, .int v3, .ref 61])) (S' := (am_sh, h, hm, g)) (by rcases hk_v1 with rfl | rfl | rfl | rfl | rfl <;> rfl) ?_
          refine am_Rn.ite am_h28 (c := x9 < 10000) (t := 94) (f := 80) (lv := [(7, .int x10), (6, .int x9), (0, .ref 59), (1, .ref v1), (3, .int v3), (4, .int v4), (5, .int v5)]) (st := [.int v3, .ref 61]) (S' := (am_sh, h, hm, g)) (by rcases hk_v1 with rfl | rfl | rfl | rfl | rfl <;> rfl) hp (fun hc13 hp => ?_) (fun hc13 hp => ?_)
          · refine am_Rn.run am_h28 1 (F' := (96, [(7, .int x10), (6, .int x9), (0, .ref 59), (1, .ref v1), (3, .int v3), (4, .int v4), (5, .int v5)], [.int x9, .int v3, .ref 61])) (S' := (am_sh, h, hm, g)) (by rcases hk_v1 with rfl | rfl | rfl | rfl | rfl <;> rfl) ?_
            obtain ⟨hn14, hp⟩ := am_ix_e hp
            obtain ⟨h15, h_h15, hp⟩ := am_b_e hp
            refine am_Rn.stepG am_h28 (c := v3 < 0 ∨ 64 ≤ v3.toNatClampNeg) (F' := (97, [(7, .int x10), (6, .int x9), (0, .ref 59), (1, .ref v1), (3, .int v3), (4, .int v4), (5, .int v5)], [])) (S' := (am_sh, h15, hm, g)) (by subst h_h15; rcases hk_v1 with rfl | rfl | rfl | rfl | rfl <;> rfl) hn14 ?_
            refine am_Rn.run am_h28 4 (F' := (32, [(5, .int (v5 + 1)), (3, .int (v3 + 1)), (7, .int x10), (6, .int x9), (0, .ref 59), (1, .ref v1), (4, .int v4)], [])) (S' := (am_sh, h15, hm, g)) (by rcases hk_v1 with rfl | rfl | rfl | rfl | rfl <;> rfl) ?_
            refine am_Rn.sub [4, 5, 1, 6, 0] rfl rfl ?_
            exact ezL_isSo_L32 hd R n v1 (v3 + 1) v4 (v5 + 1) h15 hk_v1 hp
          · refine am_Rn.run am_h28 5 (F' := (90, [(7, .int x10), (6, .int x9), (0, .ref 59), (1, .ref v1), (3, .int v3), (4, .int v4), (5, .int v5)], [.int (x9 - 10000), .ref 60, .int v3, .ref 61])) (S' := (am_sh, h, hm, g)) (by rcases hk_v1 with rfl | rfl | rfl | rfl | rfl <;> rfl) ?_
            obtain ⟨hn16, hp⟩ := am_ix_e hp
            refine am_Rn.stepG am_h28 (c := (x9 - 10000) < 0 ∨ 21 ≤ (x9 - 10000).toNatClampNeg) (F' := (91, [(7, .int x10), (6, .int x9), (0, .ref 59), (1, .ref v1), (3, .int v3), (4, .int v4), (5, .int v5)], [.int (h 60 ((x9 - 10000).toNatClampNeg)), .int v3, .ref 61])) (S' := (am_sh, h, hm, g)) (by rcases hk_v1 with rfl | rfl | rfl | rfl | rfl <;> rfl) hn16 ?_
            refine am_Rn.run am_h28 1 (F' := (96, [(7, .int x10), (6, .int x9), (0, .ref 59), (1, .ref v1), (3, .int v3), (4, .int v4), (5, .int v5)], [.int (h 60 ((x9 - 10000).toNatClampNeg)), .int v3, .ref 61])) (S' := (am_sh, h, hm, g)) (by rcases hk_v1 with rfl | rfl | rfl | rfl | rfl <;> rfl) ?_
            obtain ⟨hn17, hp⟩ := am_ix_e hp
            obtain ⟨h18, h_h18, hp⟩ := am_b_e hp
            refine am_Rn.stepG am_h28 (c := v3 < 0 ∨ 64 ≤ v3.toNatClampNeg) (F' := (97, [(7, .int x10), (6, .int x9), (0, .ref 59), (1, .ref v1), (3, .int v3), (4, .int v4), (5, .int v5)], [])) (S' := (am_sh, h18, hm, g)) (by subst h_h18; rcases hk_v1 with rfl | rfl | rfl | rfl | rfl <;> rfl) hn17 ?_
            refine am_Rn.run am_h28 4 (F' := (32, [(5, .int (v5 + 1)), (3, .int (v3 + 1)), (7, .int x10), (6, .int x9), (0, .ref 59), (1, .ref v1), (4, .int v4)], [])) (S' := (am_sh, h18, hm, g)) (by rcases hk_v1 with rfl | rfl | rfl | rfl | rfl <;> rfl) ?_
            refine am_Rn.sub [4, 5, 1, 6, 0] rfl rfl ?_
            exact ezL_isSo_L32 hd R n v1 (v3 + 1) v4 (v5 + 1) h18 hk_v1 hp
        · refine am_Rn.sub [2, 3, 4, 5, 6, 0] rfl rfl ?_
          exact ezL_isSo_J103 hd R (fun v1 v3 v4 v5 h => zL_isSo_L32 n v1 v3 v4 v5 h) (fun v1 v3 v4 v5 h hk_v1 hp => ezL_isSo_L32 hd R n v1 v3 v4 v5 h hk_v1 hp) v1 v3 v4 v5 x10 h hk_v1 hp
      · refine am_Rn.sub [2, 3, 4, 5, 6, 0] rfl rfl ?_
        exact ezL_isSo_J103 hd R (fun v1 v3 v4 v5 h => zL_isSo_L32 n v1 v3 v4 v5 h) (fun v1 v3 v4 v5 h hk_v1 hp => ezL_isSo_L32 hd R n v1 v3 v4 v5 h hk_v1 hp) v1 v3 v4 v5 x10 h hk_v1 hp
    · refine am_Rn.run am_h28 4 (F' := (211, [(0, .ref 59), (1, .ref v1), (3, .int v3), (4, .int v4), (5, .int v5)], [.int (h 61 0)])) (S' := (am_sh, h, hm, g)) (by rcases hk_v1 with rfl | rfl | rfl | rfl | rfl <;> rfl) ?_
      refine am_Rn.ite am_h28 (c := (h 61 0) = 0) (t := 218) (f := 214) (lv := [(0, .ref 59), (1, .ref v1), (3, .int v3), (4, .int v4), (5, .int v5)]) (st := []) (S' := (am_sh, h, hm, g)) (by rcases hk_v1 with rfl | rfl | rfl | rfl | rfl <;> rfl) hp (fun hc37 hp => ?_) (fun hc37 hp => ?_)
      · refine am_Rn.run am_h28 1 (F' := (219, [(0, .ref 59), (1, .ref v1), (3, .int v3), (4, .int v4), (5, .int v5)], [.int 0])) (S' := (am_sh, h, hm, g)) (by rcases hk_v1 with rfl | rfl | rfl | rfl | rfl <;> rfl) ?_
        cases hp
        exact am_Rn.ret am_h28 (by rcases hk_v1 with rfl | rfl | rfl | rfl | rfl <;> rfl)
      · refine am_Rn.run am_h28 2 (F' := (219, [(0, .ref 59), (1, .ref v1), (3, .int v3), (4, .int v4), (5, .int v5)], [.int 1])) (S' := (am_sh, h, hm, g)) (by rcases hk_v1 with rfl | rfl | rfl | rfl | rfl <;> rfl) ?_
        cases hp
        exact am_Rn.ret am_h28 (by rcases hk_v1 with rfl | rfl | rfl | rfl | rfl <;> rfl)
def zL_isSo (v1 : Nat) (v2 : Int32) (h : (Nat → Nat → Int32)) : Option (Int32 × (Nat → Nat → Int32)) := (zX_hasLaw v1 v2 h).bind fun r1 => if r1 = 0 then (some ((1, h))) else (am_ix 3 (v2 - 3) (am_b (h (v1 + 6) ((v2 - 3).toNatClampNeg)) fun x4 => am_ix 3 (v2 - 3) (am_b (h (v1 + 5) ((v2 - 3).toNatClampNeg)) fun x6 => zL_isSo_L32 am_N v1 0 x4 x6 h)))
set_option maxRecDepth 20000 in
theorem ezL_isSo {d : Nat} (hd : 3 ≤ d) (v1 : Nat) (v2 : Int32) (h : (Nat → Nat → Int32)) (R : Int32 × (Nat → Nat → Int32)) (hk_v1 : zK v1) (hp : zL_isSo v1 v2 h = some R) : am_Ev 83 Xs am_P d 28 [.ref 59, .ref v1, .int v2] (am_sh, h, hm, g) (some (.int R.1), (am_sh, R.2, hm, g)) := by
  obtain ⟨d, rfl⟩ : ∃ k, d = k + 1 := ⟨d - 1, by omega⟩
  unfold zL_isSo at hp
  show am_Rn 83 Xs am_P _ 28 (0, [(0, .ref 59), (1, .ref v1), (2, .int v2)], []) _ _
  refine am_Rn.run am_h28 2 (F' := (2, [(0, .ref 59), (1, .ref v1), (2, .int v2)], [.int v2, .ref v1])) (S' := (am_sh, h, hm, g)) (by rcases hk_v1 with rfl | rfl | rfl | rfl | rfl <;> rfl) ?_
  obtain ⟨r1, h_r1, hp⟩ := am_bind hp
  refine am_Rn.call am_h28 (mj := 104) (As := [.ref v1, .int v2]) (F' := (5, [(0, .ref 59), (1, .ref v1), (2, .int v2)], [])) (M' := am_m104) (r := some (.int r1)) (S1 := (am_sh, h, hm, g)) (by rcases hk_v1 with rfl | rfl | rfl | rfl | rfl <;> rfl) am_h104 rfl (ezX_hasLaw (by omega) v1 v2 h _ hk_v1 h_r1) ?_
  refine am_Rn.ite am_h28 (c := r1 = 0) (t := 8) (f := 10) (lv := [(0, .ref 59), (1, .ref v1), (2, .int v2)]) (st := []) (S' := (am_sh, h, hm, g)) (by rcases hk_v1 with rfl | rfl | rfl | rfl | rfl <;> rfl) hp (fun hc2 hp => ?_) (fun hc2 hp => ?_)
  · refine am_Rn.run am_h28 1 (F' := (9, [(0, .ref 59), (1, .ref v1), (2, .int v2)], [.int 1])) (S' := (am_sh, h, hm, g)) (by rcases hk_v1 with rfl | rfl | rfl | rfl | rfl <;> rfl) ?_
    cases hp
    exact am_Rn.ret am_h28 (by rcases hk_v1 with rfl | rfl | rfl | rfl | rfl <;> rfl)
  · refine am_Rn.run am_h28 7 (F' := (19, [(3, .int 0), (0, .ref 59), (1, .ref v1), (2, .int v2)], [.int (v2 - 3), .ref (v1 + 6)])) (S' := (am_sh, h, hm, g)) (by rcases hk_v1 with rfl | rfl | rfl | rfl | rfl <;> rfl) ?_
    obtain ⟨hn3, hp⟩ := am_ix_e hp
    refine am_Rn.stepG am_h28 (c := (v2 - 3) < 0 ∨ 3 ≤ (v2 - 3).toNatClampNeg) (F' := (20, [(3, .int 0), (0, .ref 59), (1, .ref v1), (2, .int v2)], [.int (h (v1 + 6) ((v2 - 3).toNatClampNeg))])) (S' := (am_sh, h, hm, g)) (by rcases hk_v1 with rfl | rfl | rfl | rfl | rfl <;> rfl) hn3 ?_
    obtain ⟨x4, h_x4, hp⟩ := am_b_e hp
    refine am_Rn.run am_h28 6 (F' := (29, [(4, .int x4), (3, .int 0), (0, .ref 59), (1, .ref v1), (2, .int v2)], [.int (v2 - 3), .ref (v1 + 5)])) (S' := (am_sh, h, hm, g)) (by subst h_x4; rcases hk_v1 with rfl | rfl | rfl | rfl | rfl <;> rfl) ?_
    obtain ⟨hn5, hp⟩ := am_ix_e hp
    refine am_Rn.stepG am_h28 (c := (v2 - 3) < 0 ∨ 3 ≤ (v2 - 3).toNatClampNeg) (F' := (30, [(4, .int x4), (3, .int 0), (0, .ref 59), (1, .ref v1), (2, .int v2)], [.int (h (v1 + 5) ((v2 - 3).toNatClampNeg))])) (S' := (am_sh, h, hm, g)) (by rcases hk_v1 with rfl | rfl | rfl | rfl | rfl <;> rfl) hn5 ?_
    obtain ⟨x6, h_x6, hp⟩ := am_b_e hp
    refine am_Rn.run am_h28 1 (F' := (32, [(5, .int x6), (4, .int x4), (3, .int 0), (0, .ref 59), (1, .ref v1), (2, .int v2)], [])) (S' := (am_sh, h, hm, g)) (by subst h_x6; rcases hk_v1 with rfl | rfl | rfl | rfl | rfl <;> rfl) ?_
    refine am_Rn.sub [3, 4, 2, 1, 0] rfl rfl ?_
    exact ezL_isSo_L32 hd R am_N v1 0 x4 x6 h hk_v1 hp
/-- SixHands.passBit(II)I [] -/
def zH_passBit (v0 : Int32) (v1 : Int32) : Int32 := (1 : Int32) <<< (((v0 * 3) + v1) &&& 31)
set_option maxRecDepth 20000 in
theorem ezH_passBit {d : Nat} (hd : 0 ≤ d) (v0 : Int32) (v1 : Int32) : am_Ev 83 Xs am_P d 148 [.int v0, .int v1] S (some (.int ((zH_passBit v0 v1))), S) := by
  obtain ⟨R, hp⟩ : ∃ R, zH_passBit v0 v1 = R := ⟨_, rfl⟩
  rw [hp]
  unfold zH_passBit at hp
  show am_Rn 83 Xs am_P _ 148 (0, [(0, .int v0), (1, .int v1)], []) _ _
  refine am_Rn.run am_h148 7 (F' := (7, [(0, .int v0), (1, .int v1)], [.int ((1 : Int32) <<< (((v0 * 3) + v1) &&& 31))])) (S' := S) rfl ?_
  subst hp
  exact am_Rn.ret am_h148 rfl
/-- SixHands$Laws.learnPasses(LSixHands$Stage;LSixHands$Text;I)V [59, 1, 't'] -/
def zL_learnPasses_L15 (k3 : Nat → Int32 → Int32 → (Nat → Nat → Int32) → Option ((Nat → Nat → Int32))) : Nat → Nat → Int32 → Int32 → Int32 → (Nat → Nat → Int32) → Option ((Nat → Nat → Int32))
  | 0, _, _, _, _, _ => none
  | n + 1, v2, v3, v4, v5, h => if v5 < (h 1 1) then (am_b (va_up h 60 (upd (h 60) 17 v4)) fun h3 => am_b (va_up h3 60 (upd (h3 60) 18 v5)) fun h4 => (zL_isSo v2 4 h4).bind fun r5 => if r5.1 = 0 then (zL_learnPasses_L15 k3 n v2 v3 v4 (v5 + 1) r5.2) else (am_ix 144 v3 (am_b (zH_passBit v4 v5) fun r8 => am_ix 144 v3 (am_b (va_up r5.2 64 (upd (r5.2 64) (v3.toNatClampNeg) ((r5.2 64 (v3.toNatClampNeg)) ||| r8))) fun h10 => zL_learnPasses_L15 k3 n v2 v3 v4 (v5 + 1) h10)))) else (k3 v2 v3 (v4 + 1) h)
set_option maxRecDepth 20000 in
theorem ezL_learnPasses_L15 {d : Nat} (hd : 4 ≤ d) (R : (Nat → Nat → Int32)) (k3 : Nat → Int32 → Int32 → (Nat → Nat → Int32) → Option ((Nat → Nat → Int32))) (hk3 : ∀ (v2 : Nat) (v3 : Int32) (v4 : Int32) (h : (Nat → Nat → Int32)), zK v2 → k3 v2 v3 v4 h = some R → am_Rn 83 Xs am_P d 26 (3, [(0, .ref 59), (1, .ref 1), (2, .ref v2), (3, .int v3), (4, .int v4)], []) (am_sh, h, hm, g) (none, (am_sh, R, hm, g))) : ∀ (n : Nat) (v2 : Nat) (v3 : Int32) (v4 : Int32) (v5 : Int32) (h : (Nat → Nat → Int32)), zK v2 → zL_learnPasses_L15 k3 n v2 v3 v4 v5 h = some R → am_Rn 83 Xs am_P d 26 (15, [(0, .ref 59), (1, .ref 1), (2, .ref v2), (3, .int v3), (4, .int v4), (5, .int v5)], []) (am_sh, h, hm, g) (none, (am_sh, R, hm, g))
  | 0, _, _, _, _, _, _, hp => by cases hp
  | n + 1, v2, v3, v4, v5, h, hk_v2, hp => by
    obtain ⟨d, rfl⟩ : ∃ k, d = k + 1 := ⟨d - 1, by omega⟩
    unfold zL_learnPasses_L15 at hp
    refine am_Rn.run am_h26 3 (F' := (21, [(0, .ref 59), (1, .ref 1), (2, .ref v2), (3, .int v3), (4, .int v4), (5, .int v5)], [.int (h 1 1), .int v5])) (S' := (am_sh, h, hm, g)) (by rcases hk_v2 with rfl | rfl | rfl | rfl | rfl <;> rfl) ?_
    refine am_Rn.ite am_h26 (c := v5 < (h 1 1)) (t := 24) (f := 73) (lv := [(0, .ref 59), (1, .ref 1), (2, .ref v2), (3, .int v3), (4, .int v4), (5, .int v5)]) (st := []) (S' := (am_sh, h, hm, g)) (by rcases hk_v2 with rfl | rfl | rfl | rfl | rfl <;> rfl) hp (fun hc2 hp => ?_) (fun hc2 hp => ?_)
    · obtain ⟨h3, h_h3, hp⟩ := am_b_e hp
      obtain ⟨h4, h_h4, hp⟩ := am_b_e hp
      refine am_Rn.run am_h26 13 (F' := (45, [(0, .ref 59), (1, .ref 1), (2, .ref v2), (3, .int v3), (4, .int v4), (5, .int v5)], [.int 4, .ref v2, .ref 59])) (S' := (am_sh, h4, hm, g)) (by subst h_h3; subst h_h4; rcases hk_v2 with rfl | rfl | rfl | rfl | rfl <;> rfl) ?_
      obtain ⟨r5, h_r5, hp⟩ := am_bind hp
      refine am_Rn.call am_h26 (mj := 28) (As := [.ref 59, .ref v2, .int 4]) (F' := (48, [(0, .ref 59), (1, .ref 1), (2, .ref v2), (3, .int v3), (4, .int v4), (5, .int v5)], [])) (M' := am_m28) (r := some (.int r5.1)) (S1 := (am_sh, r5.2, hm, g)) (by rcases hk_v2 with rfl | rfl | rfl | rfl | rfl <;> rfl) am_h28 rfl (ezL_isSo (by omega) v2 4 h4 _ hk_v2 h_r5) ?_
      refine am_Rn.ite am_h26 (c := r5.1 = 0) (t := 67) (f := 51) (lv := [(0, .ref 59), (1, .ref 1), (2, .ref v2), (3, .int v3), (4, .int v4), (5, .int v5)]) (st := []) (S' := (am_sh, r5.2, hm, g)) (by rcases hk_v2 with rfl | rfl | rfl | rfl | rfl <;> rfl) hp (fun hc6 hp => ?_) (fun hc6 hp => ?_)
      · refine am_Rn.run am_h26 2 (F' := (15, [(5, .int (v5 + 1)), (0, .ref 59), (1, .ref 1), (2, .ref v2), (3, .int v3), (4, .int v4)], [])) (S' := (am_sh, r5.2, hm, g)) (by rcases hk_v2 with rfl | rfl | rfl | rfl | rfl <;> rfl) ?_
        refine am_Rn.sub [1, 2, 3, 4, 5, 0] rfl rfl ?_
        exact ezL_learnPasses_L15 hd R k3 hk3 n v2 v3 v4 (v5 + 1) r5.2 hk_v2 hp
      · refine am_Rn.run am_h26 4 (F' := (57, [(0, .ref 59), (1, .ref 1), (2, .ref v2), (3, .int v3), (4, .int v4), (5, .int v5)], [.int v3, .ref 64, .int v3, .ref 64])) (S' := (am_sh, r5.2, hm, g)) (by rcases hk_v2 with rfl | rfl | rfl | rfl | rfl <;> rfl) ?_
        obtain ⟨hn7, hp⟩ := am_ix_e hp
        refine am_Rn.stepG am_h26 (c := v3 < 0 ∨ 144 ≤ v3.toNatClampNeg) (F' := (58, [(0, .ref 59), (1, .ref 1), (2, .ref v2), (3, .int v3), (4, .int v4), (5, .int v5)], [.int (r5.2 64 (v3.toNatClampNeg)), .int v3, .ref 64])) (S' := (am_sh, r5.2, hm, g)) (by rcases hk_v2 with rfl | rfl | rfl | rfl | rfl <;> rfl) hn7 ?_
        refine am_Rn.run am_h26 2 (F' := (62, [(0, .ref 59), (1, .ref 1), (2, .ref v2), (3, .int v3), (4, .int v4), (5, .int v5)], [.int v5, .int v4, .int (r5.2 64 (v3.toNatClampNeg)), .int v3, .ref 64])) (S' := (am_sh, r5.2, hm, g)) (by rcases hk_v2 with rfl | rfl | rfl | rfl | rfl <;> rfl) ?_
        obtain ⟨r8, h_r8, hp⟩ := am_b_e hp
        refine am_Rn.call am_h26 (mj := 148) (As := [.int v4, .int v5]) (F' := (65, [(0, .ref 59), (1, .ref 1), (2, .ref v2), (3, .int v3), (4, .int v4), (5, .int v5)], [.int (r5.2 64 (v3.toNatClampNeg)), .int v3, .ref 64])) (M' := am_m148) (r := some (.int r8)) (S1 := (am_sh, r5.2, hm, g)) (by rcases hk_v2 with rfl | rfl | rfl | rfl | rfl <;> rfl) am_h148 rfl (by subst h_r8; exact (ezH_passBit (by omega) v4 v5)) ?_
        refine am_Rn.run am_h26 1 (F' := (66, [(0, .ref 59), (1, .ref 1), (2, .ref v2), (3, .int v3), (4, .int v4), (5, .int v5)], [.int ((r5.2 64 (v3.toNatClampNeg)) ||| r8), .int v3, .ref 64])) (S' := (am_sh, r5.2, hm, g)) (by rcases hk_v2 with rfl | rfl | rfl | rfl | rfl <;> rfl) ?_
        obtain ⟨hn9, hp⟩ := am_ix_e hp
        obtain ⟨h10, h_h10, hp⟩ := am_b_e hp
        refine am_Rn.stepG am_h26 (c := v3 < 0 ∨ 144 ≤ v3.toNatClampNeg) (F' := (67, [(0, .ref 59), (1, .ref 1), (2, .ref v2), (3, .int v3), (4, .int v4), (5, .int v5)], [])) (S' := (am_sh, h10, hm, g)) (by subst h_h10; rcases hk_v2 with rfl | rfl | rfl | rfl | rfl <;> rfl) hn9 ?_
        refine am_Rn.run am_h26 2 (F' := (15, [(5, .int (v5 + 1)), (0, .ref 59), (1, .ref 1), (2, .ref v2), (3, .int v3), (4, .int v4)], [])) (S' := (am_sh, h10, hm, g)) (by rcases hk_v2 with rfl | rfl | rfl | rfl | rfl <;> rfl) ?_
        refine am_Rn.sub [1, 2, 3, 4, 5, 0] rfl rfl ?_
        exact ezL_learnPasses_L15 hd R k3 hk3 n v2 v3 v4 (v5 + 1) h10 hk_v2 hp
    · refine am_Rn.run am_h26 2 (F' := (3, [(4, .int (v4 + 1)), (0, .ref 59), (1, .ref 1), (2, .ref v2), (3, .int v3), (5, .int v5)], [])) (S' := (am_sh, h, hm, g)) (by rcases hk_v2 with rfl | rfl | rfl | rfl | rfl <;> rfl) ?_
      refine am_Rn.sub [1, 2, 3, 4, 0] rfl rfl ?_
      exact hk3 v2 v3 (v4 + 1) h hk_v2 hp
def zL_learnPasses_L3 : Nat → Nat → Int32 → Int32 → (Nat → Nat → Int32) → Option ((Nat → Nat → Int32))
  | 0, _, _, _, _ => none
  | n + 1, v2, v3, v4, h => if v4 < (h 1 1) then (zL_learnPasses_L15 (fun v2 v3 v4 h => zL_learnPasses_L3 n v2 v3 v4 h) am_N v2 v3 v4 0 h) else (some h)
set_option maxRecDepth 20000 in
theorem ezL_learnPasses_L3 {d : Nat} (hd : 4 ≤ d) (R : (Nat → Nat → Int32)) : ∀ (n : Nat) (v2 : Nat) (v3 : Int32) (v4 : Int32) (h : (Nat → Nat → Int32)), zK v2 → zL_learnPasses_L3 n v2 v3 v4 h = some R → am_Rn 83 Xs am_P d 26 (3, [(0, .ref 59), (1, .ref 1), (2, .ref v2), (3, .int v3), (4, .int v4)], []) (am_sh, h, hm, g) (none, (am_sh, R, hm, g))
  | 0, _, _, _, _, _, hp => by cases hp
  | n + 1, v2, v3, v4, h, hk_v2, hp => by
    obtain ⟨d, rfl⟩ : ∃ k, d = k + 1 := ⟨d - 1, by omega⟩
    unfold zL_learnPasses_L3 at hp
    refine am_Rn.run am_h26 3 (F' := (9, [(0, .ref 59), (1, .ref 1), (2, .ref v2), (3, .int v3), (4, .int v4)], [.int (h 1 1), .int v4])) (S' := (am_sh, h, hm, g)) (by rcases hk_v2 with rfl | rfl | rfl | rfl | rfl <;> rfl) ?_
    refine am_Rn.ite am_h26 (c := v4 < (h 1 1)) (t := 12) (f := 79) (lv := [(0, .ref 59), (1, .ref 1), (2, .ref v2), (3, .int v3), (4, .int v4)]) (st := []) (S' := (am_sh, h, hm, g)) (by rcases hk_v2 with rfl | rfl | rfl | rfl | rfl <;> rfl) hp (fun hc1 hp => ?_) (fun hc1 hp => ?_)
    · refine am_Rn.run am_h26 2 (F' := (15, [(5, .int 0), (0, .ref 59), (1, .ref 1), (2, .ref v2), (3, .int v3), (4, .int v4)], [])) (S' := (am_sh, h, hm, g)) (by rcases hk_v2 with rfl | rfl | rfl | rfl | rfl <;> rfl) ?_
      refine am_Rn.sub [1, 2, 3, 4, 5, 0] rfl rfl ?_
      exact ezL_learnPasses_L15 hd R (fun v2 v3 v4 h => zL_learnPasses_L3 n v2 v3 v4 h) (fun v2 v3 v4 h hk_v2 hp => ezL_learnPasses_L3 hd R n v2 v3 v4 h hk_v2 hp) am_N v2 v3 v4 0 h hk_v2 hp
    · cases hp
      exact am_Rn.ret am_h26 (by rcases hk_v2 with rfl | rfl | rfl | rfl | rfl <;> rfl)
def zL_learnPasses (v2 : Nat) (v3 : Int32) (h : (Nat → Nat → Int32)) : Option ((Nat → Nat → Int32)) := zL_learnPasses_L3 am_N v2 v3 0 h
set_option maxRecDepth 20000 in
theorem ezL_learnPasses {d : Nat} (hd : 4 ≤ d) (v2 : Nat) (v3 : Int32) (h : (Nat → Nat → Int32)) (R : (Nat → Nat → Int32)) (hk_v2 : zK v2) (hp : zL_learnPasses v2 v3 h = some R) : am_Ev 83 Xs am_P d 26 [.ref 59, .ref 1, .ref v2, .int v3] (am_sh, h, hm, g) (none, (am_sh, R, hm, g)) := by
  obtain ⟨d, rfl⟩ : ∃ k, d = k + 1 := ⟨d - 1, by omega⟩
  unfold zL_learnPasses at hp
  show am_Rn 83 Xs am_P _ 26 (0, [(0, .ref 59), (1, .ref 1), (2, .ref v2), (3, .int v3)], []) _ _
  refine am_Rn.run am_h26 2 (F' := (3, [(4, .int 0), (0, .ref 59), (1, .ref 1), (2, .ref v2), (3, .int v3)], [])) (S' := (am_sh, h, hm, g)) (by rcases hk_v2 with rfl | rfl | rfl | rfl | rfl <;> rfl) ?_
  refine am_Rn.sub [1, 2, 3, 4, 0] rfl rfl ?_
  exact ezL_learnPasses_L3 hd R am_N v2 v3 0 h hk_v2 hp
/-- SixHands$Laws.nameCase(LSixHands$Stage;II)V [59, 1] -/
def zL_nameCase (v2 : Int32) (v3 : Int32) (h : (Nat → Nat → Int32)) : Option ((Nat → Nat → Int32)) := am_b (va_up h 60 (upd (h 60) 12 v3)) fun h1 => am_ix 6 v3 (am_b (va_up h1 60 (upd (h1 60) 13 (h1 4 (v3.toNatClampNeg)))) fun h3 => am_ix 144 ((v2 * 6) + v3) (am_b (va_up h3 60 (upd (h3 60) 14 (h3 8 (((v2 * 6) + v3).toNatClampNeg)))) fun h5 => am_b (va_up h5 60 (upd (h5 60) 10 v2)) fun h6 => some h6))
set_option maxRecDepth 20000 in
theorem ezL_nameCase {d : Nat} (hd : 0 ≤ d) (v2 : Int32) (v3 : Int32) (h : (Nat → Nat → Int32)) (R : (Nat → Nat → Int32)) (hp : zL_nameCase v2 v3 h = some R) : am_Ev 83 Xs am_P d 24 [.ref 59, .ref 1, .int v2, .int v3] (am_sh, h, hm, g) (none, (am_sh, R, hm, g)) := by
  unfold zL_nameCase at hp
  show am_Rn 83 Xs am_P _ 24 (0, [(0, .ref 59), (1, .ref 1), (2, .int v2), (3, .int v3)], []) _ _
  obtain ⟨h1, h_h1, hp⟩ := am_b_e hp
  refine am_Rn.run am_h24 11 (F' := (19, [(0, .ref 59), (1, .ref 1), (2, .int v2), (3, .int v3)], [.int v3, .ref 4, .int 13, .ref 60])) (S' := (am_sh, h1, hm, g)) (by subst h_h1; rfl) ?_
  obtain ⟨hn2, hp⟩ := am_ix_e hp
  refine am_Rn.stepG am_h24 (c := v3 < 0 ∨ 6 ≤ v3.toNatClampNeg) (F' := (20, [(0, .ref 59), (1, .ref 1), (2, .int v2), (3, .int v3)], [.int (h1 4 (v3.toNatClampNeg)), .int 13, .ref 60])) (S' := (am_sh, h1, hm, g)) rfl hn2 ?_
  obtain ⟨h3, h_h3, hp⟩ := am_b_e hp
  refine am_Rn.run am_h24 11 (F' := (37, [(0, .ref 59), (1, .ref 1), (2, .int v2), (3, .int v3)], [.int ((v2 * 6) + v3), .ref 8, .int 14, .ref 60])) (S' := (am_sh, h3, hm, g)) (by subst h_h3; rfl) ?_
  obtain ⟨hn4, hp⟩ := am_ix_e hp
  refine am_Rn.stepG am_h24 (c := ((v2 * 6) + v3) < 0 ∨ 144 ≤ ((v2 * 6) + v3).toNatClampNeg) (F' := (38, [(0, .ref 59), (1, .ref 1), (2, .int v2), (3, .int v3)], [.int (h3 8 (((v2 * 6) + v3).toNatClampNeg)), .int 14, .ref 60])) (S' := (am_sh, h3, hm, g)) rfl hn4 ?_
  obtain ⟨h5, h_h5, hp⟩ := am_b_e hp
  obtain ⟨h6, h_h6, hp⟩ := am_b_e hp
  refine am_Rn.run am_h24 6 (F' := (47, [(0, .ref 59), (1, .ref 1), (2, .int v2), (3, .int v3)], [])) (S' := (am_sh, h6, hm, g)) (by subst h_h5; subst h_h6; rfl) ?_
  cases hp
  exact am_Rn.ret am_h24 rfl
/-- SixHands.ownerOf(II)I [] -/
def zH_ownerOf (v0 : Int32) (v1 : Int32) : Int32 := if v0 = 2 then (v1) else (v1 >>> (1 &&& 31))
set_option maxRecDepth 20000 in
theorem ezH_ownerOf {d : Nat} (hd : 0 ≤ d) (v0 : Int32) (v1 : Int32) : am_Ev 83 Xs am_P d 146 [.int v0, .int v1] S (some (.int ((zH_ownerOf v0 v1))), S) := by
  obtain ⟨R, hp⟩ : ∃ R, zH_ownerOf v0 v1 = R := ⟨_, rfl⟩
  rw [hp]
  unfold zH_ownerOf at hp
  show am_Rn 83 Xs am_P _ 146 (0, [(0, .int v0), (1, .int v1)], []) _ _
  refine am_Rn.run am_h146 2 (F' := (2, [(0, .int v0), (1, .int v1)], [.int 2, .int v0])) (S' := S) rfl ?_
  refine am_Rn.ite am_h146 (c := v0 = 2) (t := 5) (f := 9) (lv := [(0, .int v0), (1, .int v1)]) (st := []) (S' := S) rfl hp (fun hc1 hp => ?_) (fun hc1 hp => ?_)
  · refine am_Rn.run am_h146 2 (F' := (12, [(0, .int v0), (1, .int v1)], [.int v1])) (S' := S) rfl ?_
    subst hp
    exact am_Rn.ret am_h146 rfl
  · refine am_Rn.run am_h146 3 (F' := (12, [(0, .int v0), (1, .int v1)], [.int (v1 >>> (1 &&& 31))])) (S' := S) rfl ?_
    subst hp
    exact am_Rn.ret am_h146 rfl
/-- SixHands$Stage.isInReach(II)Z [1] -/
def zG_isInReach (v1 : Int32) (v2 : Int32) (h : (Nat → Nat → Int32)) : Option (Int32) := am_ix 3 v1 (am_b (zD_abs ((h 2 (v1.toNatClampNeg)) - v2)) fun r2 => am_ix 3 v1 (if (h 3 (v1.toNatClampNeg)) < r2 then (some 0) else (some 1)))
set_option maxRecDepth 20000 in
theorem ezG_isInReach {d : Nat} (hd : 1 ≤ d) (v1 : Int32) (v2 : Int32) (h : (Nat → Nat → Int32)) (R : Int32) (hp : zG_isInReach v1 v2 h = some R) : am_Ev 83 Xs am_P d 84 [.ref 1, .int v1, .int v2] (am_sh, h, hm, g) (some (.int R), (am_sh, h, hm, g)) := by
  obtain ⟨d, rfl⟩ : ∃ k, d = k + 1 := ⟨d - 1, by omega⟩
  unfold zG_isInReach at hp
  show am_Rn 83 Xs am_P _ 84 (0, [(0, .ref 1), (1, .int v1), (2, .int v2)], []) _ _
  refine am_Rn.run am_h84 3 (F' := (5, [(0, .ref 1), (1, .int v1), (2, .int v2)], [.int v1, .ref 2])) (S' := (am_sh, h, hm, g)) rfl ?_
  obtain ⟨hn1, hp⟩ := am_ix_e hp
  refine am_Rn.stepG am_h84 (c := v1 < 0 ∨ 3 ≤ v1.toNatClampNeg) (F' := (6, [(0, .ref 1), (1, .int v1), (2, .int v2)], [.int (h 2 (v1.toNatClampNeg))])) (S' := (am_sh, h, hm, g)) rfl hn1 ?_
  refine am_Rn.run am_h84 2 (F' := (8, [(0, .ref 1), (1, .int v1), (2, .int v2)], [.int ((h 2 (v1.toNatClampNeg)) - v2)])) (S' := (am_sh, h, hm, g)) rfl ?_
  obtain ⟨r2, h_r2, hp⟩ := am_b_e hp
  refine am_Rn.call am_h84 (mj := 1) (As := [.int ((h 2 (v1.toNatClampNeg)) - v2)]) (F' := (11, [(0, .ref 1), (1, .int v1), (2, .int v2)], [])) (M' := am_m1) (r := some (.int r2)) (S1 := (am_sh, h, hm, g)) rfl am_h1 rfl (by subst h_r2; exact (ezD_abs (by omega) ((h 2 (v1.toNatClampNeg)) - v2))) ?_
  refine am_Rn.run am_h84 3 (F' := (16, [(0, .ref 1), (1, .int v1), (2, .int v2)], [.int v1, .ref 3, .int r2])) (S' := (am_sh, h, hm, g)) rfl ?_
  obtain ⟨hn3, hp⟩ := am_ix_e hp
  refine am_Rn.stepG am_h84 (c := v1 < 0 ∨ 3 ≤ v1.toNatClampNeg) (F' := (17, [(0, .ref 1), (1, .int v1), (2, .int v2)], [.int (h 3 (v1.toNatClampNeg)), .int r2])) (S' := (am_sh, h, hm, g)) rfl hn3 ?_
  refine am_Rn.ite am_h84 (c := (h 3 (v1.toNatClampNeg)) < r2) (t := 24) (f := 20) (lv := [(0, .ref 1), (1, .int v1), (2, .int v2)]) (st := []) (S' := (am_sh, h, hm, g)) rfl hp (fun hc4 hp => ?_) (fun hc4 hp => ?_)
  · refine am_Rn.run am_h84 1 (F' := (25, [(0, .ref 1), (1, .int v1), (2, .int v2)], [.int 0])) (S' := (am_sh, h, hm, g)) rfl ?_
    cases hp
    exact am_Rn.ret am_h84 rfl
  · refine am_Rn.run am_h84 2 (F' := (25, [(0, .ref 1), (1, .int v1), (2, .int v2)], [.int 1])) (S' := (am_sh, h, hm, g)) rfl ?_
    cases hp
    exact am_Rn.ret am_h84 rfl
/-- SixHands$Laws.learnHolds(LSixHands$Stage;LSixHands$Text;I)V [59, 1, 't'] -/
def zL_learnHolds_J105 (k31 : Nat → Int32 → Int32 → Int32 → Int32 → (Nat → Nat → Int32) → Option ((Nat → Nat → Int32))) (v2 : Nat) (v3 : Int32) (v4 : Int32) (v5 : Int32) (v6 : Int32) (s1 : Int32) (s2 : Int32) (h : (Nat → Nat → Int32)) : Option ((Nat → Nat → Int32)) := am_ix 21 s1 (am_b (va_up h 60 (upd (h 60) (s1.toNatClampNeg) s2)) fun h14 => (zL_isSo v2 3 h14).bind fun r15 => if r15.1 = 0 then (k31 v2 v3 v4 v5 (v6 + 1) r15.2) else (am_ix 144 v3 (am_ix 144 v3 (am_b (va_up r15.2 63 (upd (r15.2 63) (v3.toNatClampNeg) ((r15.2 63 (v3.toNatClampNeg)) ||| ((1 : Int32) <<< (v6 &&& 31))))) fun h19 => k31 v2 v3 v4 v5 (v6 + 1) h19))))
set_option maxRecDepth 20000 in
theorem ezL_learnHolds_J105 {d : Nat} (hd : 4 ≤ d) (R : (Nat → Nat → Int32)) (k31 : Nat → Int32 → Int32 → Int32 → Int32 → (Nat → Nat → Int32) → Option ((Nat → Nat → Int32))) (hk31 : ∀ (v2 : Nat) (v3 : Int32) (v4 : Int32) (v5 : Int32) (v6 : Int32) (h : (Nat → Nat → Int32)), zK v2 → k31 v2 v3 v4 v5 v6 h = some R → am_Rn 83 Xs am_P d 25 (31, [(0, .ref 59), (1, .ref 1), (2, .ref v2), (3, .int v3), (4, .int v4), (5, .int v5), (6, .int v6)], []) (am_sh, h, hm, g) (none, (am_sh, R, hm, g))) (v2 : Nat) (v3 : Int32) (v4 : Int32) (v5 : Int32) (v6 : Int32) (s1 : Int32) (s2 : Int32) (h : (Nat → Nat → Int32)) (hk_v2 : zK v2) (hp : zL_learnHolds_J105 k31 v2 v3 v4 v5 v6 s1 s2 h = some R) : am_Rn 83 Xs am_P d 25 (105, [(0, .ref 59), (1, .ref 1), (2, .ref v2), (3, .int v3), (4, .int v4), (5, .int v5), (6, .int v6)], [.int s2, .int s1, .ref 60]) (am_sh, h, hm, g) (none, (am_sh, R, hm, g)) := by
  obtain ⟨d, rfl⟩ : ∃ k, d = k + 1 := ⟨d - 1, by omega⟩
  unfold zL_learnHolds_J105 at hp
  obtain ⟨hn13, hp⟩ := am_ix_e hp
  obtain ⟨h14, h_h14, hp⟩ := am_b_e hp
  refine am_Rn.stepG am_h25 (c := s1 < 0 ∨ 21 ≤ s1.toNatClampNeg) (F' := (106, [(0, .ref 59), (1, .ref 1), (2, .ref v2), (3, .int v3), (4, .int v4), (5, .int v5), (6, .int v6)], [])) (S' := (am_sh, h14, hm, g)) (by subst h_h14; rcases hk_v2 with rfl | rfl | rfl | rfl | rfl <;> rfl) hn13 ?_
  refine am_Rn.run am_h25 3 (F' := (109, [(0, .ref 59), (1, .ref 1), (2, .ref v2), (3, .int v3), (4, .int v4), (5, .int v5), (6, .int v6)], [.int 3, .ref v2, .ref 59])) (S' := (am_sh, h14, hm, g)) (by rcases hk_v2 with rfl | rfl | rfl | rfl | rfl <;> rfl) ?_
  obtain ⟨r15, h_r15, hp⟩ := am_bind hp
  refine am_Rn.call am_h25 (mj := 28) (As := [.ref 59, .ref v2, .int 3]) (F' := (112, [(0, .ref 59), (1, .ref 1), (2, .ref v2), (3, .int v3), (4, .int v4), (5, .int v5), (6, .int v6)], [])) (M' := am_m28) (r := some (.int r15.1)) (S1 := (am_sh, r15.2, hm, g)) (by rcases hk_v2 with rfl | rfl | rfl | rfl | rfl <;> rfl) am_h28 rfl (ezL_isSo (by omega) v2 3 h14 _ hk_v2 h_r15) ?_
  refine am_Rn.ite am_h25 (c := r15.1 = 0) (t := 128) (f := 115) (lv := [(0, .ref 59), (1, .ref 1), (2, .ref v2), (3, .int v3), (4, .int v4), (5, .int v5), (6, .int v6)]) (st := []) (S' := (am_sh, r15.2, hm, g)) (by rcases hk_v2 with rfl | rfl | rfl | rfl | rfl <;> rfl) hp (fun hc16 hp => ?_) (fun hc16 hp => ?_)
  · refine am_Rn.run am_h25 2 (F' := (31, [(6, .int (v6 + 1)), (0, .ref 59), (1, .ref 1), (2, .ref v2), (3, .int v3), (4, .int v4), (5, .int v5)], [])) (S' := (am_sh, r15.2, hm, g)) (by rcases hk_v2 with rfl | rfl | rfl | rfl | rfl <;> rfl) ?_
    refine am_Rn.sub [1, 2, 3, 4, 5, 6, 0] rfl rfl ?_
    exact hk31 v2 v3 v4 v5 (v6 + 1) r15.2 hk_v2 hp
  · refine am_Rn.run am_h25 4 (F' := (121, [(0, .ref 59), (1, .ref 1), (2, .ref v2), (3, .int v3), (4, .int v4), (5, .int v5), (6, .int v6)], [.int v3, .ref 63, .int v3, .ref 63])) (S' := (am_sh, r15.2, hm, g)) (by rcases hk_v2 with rfl | rfl | rfl | rfl | rfl <;> rfl) ?_
    obtain ⟨hn17, hp⟩ := am_ix_e hp
    refine am_Rn.stepG am_h25 (c := v3 < 0 ∨ 144 ≤ v3.toNatClampNeg) (F' := (122, [(0, .ref 59), (1, .ref 1), (2, .ref v2), (3, .int v3), (4, .int v4), (5, .int v5), (6, .int v6)], [.int (r15.2 63 (v3.toNatClampNeg)), .int v3, .ref 63])) (S' := (am_sh, r15.2, hm, g)) (by rcases hk_v2 with rfl | rfl | rfl | rfl | rfl <;> rfl) hn17 ?_
    refine am_Rn.run am_h25 4 (F' := (127, [(0, .ref 59), (1, .ref 1), (2, .ref v2), (3, .int v3), (4, .int v4), (5, .int v5), (6, .int v6)], [.int ((r15.2 63 (v3.toNatClampNeg)) ||| ((1 : Int32) <<< (v6 &&& 31))), .int v3, .ref 63])) (S' := (am_sh, r15.2, hm, g)) (by rcases hk_v2 with rfl | rfl | rfl | rfl | rfl <;> rfl) ?_
    obtain ⟨hn18, hp⟩ := am_ix_e hp
    obtain ⟨h19, h_h19, hp⟩ := am_b_e hp
    refine am_Rn.stepG am_h25 (c := v3 < 0 ∨ 144 ≤ v3.toNatClampNeg) (F' := (128, [(0, .ref 59), (1, .ref 1), (2, .ref v2), (3, .int v3), (4, .int v4), (5, .int v5), (6, .int v6)], [])) (S' := (am_sh, h19, hm, g)) (by subst h_h19; rcases hk_v2 with rfl | rfl | rfl | rfl | rfl <;> rfl) hn18 ?_
    refine am_Rn.run am_h25 2 (F' := (31, [(6, .int (v6 + 1)), (0, .ref 59), (1, .ref 1), (2, .ref v2), (3, .int v3), (4, .int v4), (5, .int v5)], [])) (S' := (am_sh, h19, hm, g)) (by rcases hk_v2 with rfl | rfl | rfl | rfl | rfl <;> rfl) ?_
    refine am_Rn.sub [1, 2, 3, 4, 5, 6, 0] rfl rfl ?_
    exact hk31 v2 v3 v4 v5 (v6 + 1) h19 hk_v2 hp
def zL_learnHolds_L31 : Nat → Nat → Int32 → Int32 → Int32 → Int32 → (Nat → Nat → Int32) → Option ((Nat → Nat → Int32))
  | 0, _, _, _, _, _, _ => none
  | n + 1, v2, v3, v4, v5, v6, h => if v6 < v5 then (am_b (zH_ownerOf v4 v6) fun r5 => (zG_isInReach r5 (h 60 14) h).bind fun r6 => if r6 = 0 then (zL_learnHolds_L31 n v2 v3 v4 v5 (v6 + 1) h) else (am_ix 144 v3 (am_ix 144 v3 (am_b (va_up h 62 (upd (h 62) (v3.toNatClampNeg) ((h 62 (v3.toNatClampNeg)) ||| ((1 : Int32) <<< (v6 &&& 31))))) fun h10 => am_b (va_up h10 60 (upd (h10 60) 15 r5)) fun h11 => if v4 = 2 then (zL_learnHolds_J105 (fun v2 v3 v4 v5 v6 h => zL_learnHolds_L31 n v2 v3 v4 v5 v6 h) v2 v3 v4 v5 v6 16 0 h11) else (zL_learnHolds_J105 (fun v2 v3 v4 v5 v6 h => zL_learnHolds_L31 n v2 v3 v4 v5 v6 h) v2 v3 v4 v5 v6 16 (v6 &&& 1) h11))))) else (some h)
set_option maxRecDepth 20000 in
theorem ezL_learnHolds_L31 {d : Nat} (hd : 4 ≤ d) (R : (Nat → Nat → Int32)) : ∀ (n : Nat) (v2 : Nat) (v3 : Int32) (v4 : Int32) (v5 : Int32) (v6 : Int32) (h : (Nat → Nat → Int32)), zK v2 → zL_learnHolds_L31 n v2 v3 v4 v5 v6 h = some R → am_Rn 83 Xs am_P d 25 (31, [(0, .ref 59), (1, .ref 1), (2, .ref v2), (3, .int v3), (4, .int v4), (5, .int v5), (6, .int v6)], []) (am_sh, h, hm, g) (none, (am_sh, R, hm, g))
  | 0, _, _, _, _, _, _, _, hp => by cases hp
  | n + 1, v2, v3, v4, v5, v6, h, hk_v2, hp => by
    obtain ⟨d, rfl⟩ : ∃ k, d = k + 1 := ⟨d - 1, by omega⟩
    unfold zL_learnHolds_L31 at hp
    refine am_Rn.run am_h25 2 (F' := (35, [(0, .ref 59), (1, .ref 1), (2, .ref v2), (3, .int v3), (4, .int v4), (5, .int v5), (6, .int v6)], [.int v5, .int v6])) (S' := (am_sh, h, hm, g)) (by rcases hk_v2 with rfl | rfl | rfl | rfl | rfl <;> rfl) ?_
    refine am_Rn.ite am_h25 (c := v6 < v5) (t := 38) (f := 134) (lv := [(0, .ref 59), (1, .ref 1), (2, .ref v2), (3, .int v3), (4, .int v4), (5, .int v5), (6, .int v6)]) (st := []) (S' := (am_sh, h, hm, g)) (by rcases hk_v2 with rfl | rfl | rfl | rfl | rfl <;> rfl) hp (fun hc4 hp => ?_) (fun hc4 hp => ?_)
    · refine am_Rn.run am_h25 2 (F' := (42, [(0, .ref 59), (1, .ref 1), (2, .ref v2), (3, .int v3), (4, .int v4), (5, .int v5), (6, .int v6)], [.int v6, .int v4])) (S' := (am_sh, h, hm, g)) (by rcases hk_v2 with rfl | rfl | rfl | rfl | rfl <;> rfl) ?_
      obtain ⟨r5, h_r5, hp⟩ := am_b_e hp
      refine am_Rn.call am_h25 (mj := 146) (As := [.int v4, .int v6]) (F' := (45, [(0, .ref 59), (1, .ref 1), (2, .ref v2), (3, .int v3), (4, .int v4), (5, .int v5), (6, .int v6)], [])) (M' := am_m146) (r := some (.int r5)) (S1 := (am_sh, h, hm, g)) (by rcases hk_v2 with rfl | rfl | rfl | rfl | rfl <;> rfl) am_h146 rfl (by subst h_r5; exact (ezH_ownerOf (by omega) v4 v6)) ?_
      refine am_Rn.run am_h25 7 (F' := (57, [(7, .int r5), (0, .ref 59), (1, .ref 1), (2, .ref v2), (3, .int v3), (4, .int v4), (5, .int v5), (6, .int v6)], [.int (h 60 14), .int r5, .ref 1])) (S' := (am_sh, h, hm, g)) (by rcases hk_v2 with rfl | rfl | rfl | rfl | rfl <;> rfl) ?_
      obtain ⟨r6, h_r6, hp⟩ := am_bind hp
      refine am_Rn.call am_h25 (mj := 84) (As := [.ref 1, .int r5, .int (h 60 14)]) (F' := (60, [(7, .int r5), (0, .ref 59), (1, .ref 1), (2, .ref v2), (3, .int v3), (4, .int v4), (5, .int v5), (6, .int v6)], [])) (M' := am_m84) (r := some (.int r6)) (S1 := (am_sh, h, hm, g)) (by rcases hk_v2 with rfl | rfl | rfl | rfl | rfl <;> rfl) am_h84 rfl (ezG_isInReach (by omega) r5 (h 60 14) h _ h_r6) ?_
      refine am_Rn.ite am_h25 (c := r6 = 0) (t := 128) (f := 63) (lv := [(7, .int r5), (0, .ref 59), (1, .ref 1), (2, .ref v2), (3, .int v3), (4, .int v4), (5, .int v5), (6, .int v6)]) (st := []) (S' := (am_sh, h, hm, g)) (by rcases hk_v2 with rfl | rfl | rfl | rfl | rfl <;> rfl) hp (fun hc7 hp => ?_) (fun hc7 hp => ?_)
      · refine am_Rn.run am_h25 2 (F' := (31, [(6, .int (v6 + 1)), (7, .int r5), (0, .ref 59), (1, .ref 1), (2, .ref v2), (3, .int v3), (4, .int v4), (5, .int v5)], [])) (S' := (am_sh, h, hm, g)) (by rcases hk_v2 with rfl | rfl | rfl | rfl | rfl <;> rfl) ?_
        refine am_Rn.sub [2, 3, 4, 5, 6, 7, 0] rfl rfl ?_
        exact ezL_learnHolds_L31 hd R n v2 v3 v4 v5 (v6 + 1) h hk_v2 hp
      · refine am_Rn.run am_h25 4 (F' := (69, [(7, .int r5), (0, .ref 59), (1, .ref 1), (2, .ref v2), (3, .int v3), (4, .int v4), (5, .int v5), (6, .int v6)], [.int v3, .ref 62, .int v3, .ref 62])) (S' := (am_sh, h, hm, g)) (by rcases hk_v2 with rfl | rfl | rfl | rfl | rfl <;> rfl) ?_
        obtain ⟨hn8, hp⟩ := am_ix_e hp
        refine am_Rn.stepG am_h25 (c := v3 < 0 ∨ 144 ≤ v3.toNatClampNeg) (F' := (70, [(7, .int r5), (0, .ref 59), (1, .ref 1), (2, .ref v2), (3, .int v3), (4, .int v4), (5, .int v5), (6, .int v6)], [.int (h 62 (v3.toNatClampNeg)), .int v3, .ref 62])) (S' := (am_sh, h, hm, g)) (by rcases hk_v2 with rfl | rfl | rfl | rfl | rfl <;> rfl) hn8 ?_
        refine am_Rn.run am_h25 4 (F' := (75, [(7, .int r5), (0, .ref 59), (1, .ref 1), (2, .ref v2), (3, .int v3), (4, .int v4), (5, .int v5), (6, .int v6)], [.int ((h 62 (v3.toNatClampNeg)) ||| ((1 : Int32) <<< (v6 &&& 31))), .int v3, .ref 62])) (S' := (am_sh, h, hm, g)) (by rcases hk_v2 with rfl | rfl | rfl | rfl | rfl <;> rfl) ?_
        obtain ⟨hn9, hp⟩ := am_ix_e hp
        obtain ⟨h10, h_h10, hp⟩ := am_b_e hp
        refine am_Rn.stepG am_h25 (c := v3 < 0 ∨ 144 ≤ v3.toNatClampNeg) (F' := (76, [(7, .int r5), (0, .ref 59), (1, .ref 1), (2, .ref v2), (3, .int v3), (4, .int v4), (5, .int v5), (6, .int v6)], [])) (S' := (am_sh, h10, hm, g)) (by subst h_h10; rcases hk_v2 with rfl | rfl | rfl | rfl | rfl <;> rfl) hn9 ?_
        obtain ⟨h11, h_h11, hp⟩ := am_b_e hp
        refine am_Rn.run am_h25 10 (F' := (94, [(7, .int r5), (0, .ref 59), (1, .ref 1), (2, .ref v2), (3, .int v3), (4, .int v4), (5, .int v5), (6, .int v6)], [.int 2, .int v4, .int 16, .ref 60])) (S' := (am_sh, h11, hm, g)) (by subst h_h11; rcases hk_v2 with rfl | rfl | rfl | rfl | rfl <;> rfl) ?_
        refine am_Rn.ite am_h25 (c := v4 = 2) (t := 97) (f := 101) (lv := [(7, .int r5), (0, .ref 59), (1, .ref 1), (2, .ref v2), (3, .int v3), (4, .int v4), (5, .int v5), (6, .int v6)]) (st := [.int 16, .ref 60]) (S' := (am_sh, h11, hm, g)) (by rcases hk_v2 with rfl | rfl | rfl | rfl | rfl <;> rfl) hp (fun hc12 hp => ?_) (fun hc12 hp => ?_)
        · refine am_Rn.run am_h25 2 (F' := (105, [(7, .int r5), (0, .ref 59), (1, .ref 1), (2, .ref v2), (3, .int v3), (4, .int v4), (5, .int v5), (6, .int v6)], [.int 0, .int 16, .ref 60])) (S' := (am_sh, h11, hm, g)) (by rcases hk_v2 with rfl | rfl | rfl | rfl | rfl <;> rfl) ?_
          refine am_Rn.sub [1, 2, 3, 4, 5, 6, 7] rfl rfl ?_
          exact ezL_learnHolds_J105 hd R (fun v2 v3 v4 v5 v6 h => zL_learnHolds_L31 n v2 v3 v4 v5 v6 h) (fun v2 v3 v4 v5 v6 h hk_v2 hp => ezL_learnHolds_L31 hd R n v2 v3 v4 v5 v6 h hk_v2 hp) v2 v3 v4 v5 v6 16 0 h11 hk_v2 hp
        · refine am_Rn.run am_h25 3 (F' := (105, [(7, .int r5), (0, .ref 59), (1, .ref 1), (2, .ref v2), (3, .int v3), (4, .int v4), (5, .int v5), (6, .int v6)], [.int (v6 &&& 1), .int 16, .ref 60])) (S' := (am_sh, h11, hm, g)) (by rcases hk_v2 with rfl | rfl | rfl | rfl | rfl <;> rfl) ?_
          refine am_Rn.sub [1, 2, 3, 4, 5, 6, 7] rfl rfl ?_
          exact ezL_learnHolds_J105 hd R (fun v2 v3 v4 v5 v6 h => zL_learnHolds_L31 n v2 v3 v4 v5 v6 h) (fun v2 v3 v4 v5 v6 h hk_v2 hp => ezL_learnHolds_L31 hd R n v2 v3 v4 v5 v6 h hk_v2 hp) v2 v3 v4 v5 v6 16 (v6 &&& 1) h11 hk_v2 hp
    · cases hp
      exact am_Rn.ret am_h25 (by rcases hk_v2 with rfl | rfl | rfl | rfl | rfl <;> rfl)
def zL_learnHolds (v2 : Nat) (v3 : Int32) (h : (Nat → Nat → Int32)) : Option ((Nat → Nat → Int32)) := am_b (h 60 13) fun x1 => if x1 = 2 then (am_b (h 1 1) fun x3 => zL_learnHolds_L31 am_N v2 v3 x1 x3 0 h) else (am_b (zG_hands h) fun r20 => zL_learnHolds_L31 am_N v2 v3 x1 r20 0 h)
set_option maxRecDepth 20000 in
theorem ezL_learnHolds {d : Nat} (hd : 4 ≤ d) (v2 : Nat) (v3 : Int32) (h : (Nat → Nat → Int32)) (R : (Nat → Nat → Int32)) (hk_v2 : zK v2) (hp : zL_learnHolds v2 v3 h = some R) : am_Ev 83 Xs am_P d 25 [.ref 59, .ref 1, .ref v2, .int v3] (am_sh, h, hm, g) (none, (am_sh, R, hm, g)) := by
  obtain ⟨d, rfl⟩ : ∃ k, d = k + 1 := ⟨d - 1, by omega⟩
  unfold zL_learnHolds at hp
  show am_Rn 83 Xs am_P _ 25 (0, [(0, .ref 59), (1, .ref 1), (2, .ref v2), (3, .int v3)], []) _ _
  obtain ⟨x1, h_x1, hp⟩ := am_b_e hp
  refine am_Rn.run am_h25 7 (F' := (12, [(4, .int x1), (0, .ref 59), (1, .ref 1), (2, .ref v2), (3, .int v3)], [.int 2, .int x1])) (S' := (am_sh, h, hm, g)) (by subst h_x1; rcases hk_v2 with rfl | rfl | rfl | rfl | rfl <;> rfl) ?_
  refine am_Rn.ite am_h25 (c := x1 = 2) (t := 15) (f := 22) (lv := [(4, .int x1), (0, .ref 59), (1, .ref 1), (2, .ref v2), (3, .int v3)]) (st := []) (S' := (am_sh, h, hm, g)) (by rcases hk_v2 with rfl | rfl | rfl | rfl | rfl <;> rfl) hp (fun hc2 hp => ?_) (fun hc2 hp => ?_)
  · obtain ⟨x3, h_x3, hp⟩ := am_b_e hp
    refine am_Rn.run am_h25 6 (F' := (31, [(6, .int 0), (5, .int x3), (4, .int x1), (0, .ref 59), (1, .ref 1), (2, .ref v2), (3, .int v3)], [])) (S' := (am_sh, h, hm, g)) (by subst h_x3; rcases hk_v2 with rfl | rfl | rfl | rfl | rfl <;> rfl) ?_
    refine am_Rn.sub [3, 4, 5, 6, 2, 1, 0] rfl rfl ?_
    exact ezL_learnHolds_L31 hd R am_N v2 v3 x1 x3 0 h hk_v2 hp
  · refine am_Rn.run am_h25 1 (F' := (23, [(4, .int x1), (0, .ref 59), (1, .ref 1), (2, .ref v2), (3, .int v3)], [.ref 1])) (S' := (am_sh, h, hm, g)) (by rcases hk_v2 with rfl | rfl | rfl | rfl | rfl <;> rfl) ?_
    obtain ⟨r20, h_r20, hp⟩ := am_b_e hp
    refine am_Rn.call am_h25 (mj := 82) (As := [.ref 1]) (F' := (26, [(4, .int x1), (0, .ref 59), (1, .ref 1), (2, .ref v2), (3, .int v3)], [])) (M' := am_m82) (r := some (.int r20)) (S1 := (am_sh, h, hm, g)) (by rcases hk_v2 with rfl | rfl | rfl | rfl | rfl <;> rfl) am_h82 rfl (by subst h_r20; exact (ezG_hands (by omega) h)) ?_
    refine am_Rn.run am_h25 3 (F' := (31, [(6, .int 0), (5, .int r20), (4, .int x1), (0, .ref 59), (1, .ref 1), (2, .ref v2), (3, .int v3)], [])) (S' := (am_sh, h, hm, g)) (by rcases hk_v2 with rfl | rfl | rfl | rfl | rfl <;> rfl) ?_
    refine am_Rn.sub [3, 4, 5, 6, 2, 1, 0] rfl rfl ?_
    exact ezL_learnHolds_L31 hd R am_N v2 v3 x1 r20 0 h hk_v2 hp
/-- SixHands$Laws.learn(LSixHands$Stage;LSixHands$Text;)V [59, 1, 't'] -/
def zL_learn_J94 (k26 : Nat → Int32 → Int32 → (Nat → Nat → Int32) → Option ((Nat → Nat → Int32))) (v2 : Nat) (v3 : Int32) (v4 : Int32) (v5 : Int32) (h : (Nat → Nat → Int32)) : Option ((Nat → Nat → Int32)) := (zG_staysOn v3 v4 h).bind fun r14 => if r14 = 0 then (k26 v2 v3 (v4 + 1) h) else ((zL_learnPasses v2 v5 h).bind fun r16 => k26 v2 v3 (v4 + 1) r16)
set_option maxRecDepth 20000 in
theorem ezL_learn_J94 {d : Nat} (hd : 5 ≤ d) (R : (Nat → Nat → Int32)) (k26 : Nat → Int32 → Int32 → (Nat → Nat → Int32) → Option ((Nat → Nat → Int32))) (hk26 : ∀ (v2 : Nat) (v3 : Int32) (v4 : Int32) (h : (Nat → Nat → Int32)), zK v2 → k26 v2 v3 v4 h = some R → am_Rn 83 Xs am_P d 23 (26, [(0, .ref 59), (1, .ref 1), (2, .ref v2), (3, .int v3), (4, .int v4)], []) (am_sh, h, hm, g) (none, (am_sh, R, hm, g))) (v2 : Nat) (v3 : Int32) (v4 : Int32) (v5 : Int32) (h : (Nat → Nat → Int32)) (hk_v2 : zK v2) (hp : zL_learn_J94 k26 v2 v3 v4 v5 h = some R) : am_Rn 83 Xs am_P d 23 (94, [(0, .ref 59), (1, .ref 1), (2, .ref v2), (3, .int v3), (4, .int v4), (5, .int v5)], []) (am_sh, h, hm, g) (none, (am_sh, R, hm, g)) := by
  obtain ⟨d, rfl⟩ : ∃ k, d = k + 1 := ⟨d - 1, by omega⟩
  unfold zL_learn_J94 at hp
  refine am_Rn.run am_h23 3 (F' := (98, [(0, .ref 59), (1, .ref 1), (2, .ref v2), (3, .int v3), (4, .int v4), (5, .int v5)], [.int v4, .int v3, .ref 1])) (S' := (am_sh, h, hm, g)) (by rcases hk_v2 with rfl | rfl | rfl | rfl | rfl <;> rfl) ?_
  obtain ⟨r14, h_r14, hp⟩ := am_bind hp
  refine am_Rn.call am_h23 (mj := 86) (As := [.ref 1, .int v3, .int v4]) (F' := (101, [(0, .ref 59), (1, .ref 1), (2, .ref v2), (3, .int v3), (4, .int v4), (5, .int v5)], [])) (M' := am_m86) (r := some (.int r14)) (S1 := (am_sh, h, hm, g)) (by rcases hk_v2 with rfl | rfl | rfl | rfl | rfl <;> rfl) am_h86 rfl (ezG_staysOn (by omega) v3 v4 h _ h_r14) ?_
  refine am_Rn.ite am_h23 (c := r14 = 0) (t := 112) (f := 104) (lv := [(0, .ref 59), (1, .ref 1), (2, .ref v2), (3, .int v3), (4, .int v4), (5, .int v5)]) (st := []) (S' := (am_sh, h, hm, g)) (by rcases hk_v2 with rfl | rfl | rfl | rfl | rfl <;> rfl) hp (fun hc15 hp => ?_) (fun hc15 hp => ?_)
  · refine am_Rn.run am_h23 2 (F' := (26, [(4, .int (v4 + 1)), (0, .ref 59), (1, .ref 1), (2, .ref v2), (3, .int v3), (5, .int v5)], [])) (S' := (am_sh, h, hm, g)) (by rcases hk_v2 with rfl | rfl | rfl | rfl | rfl <;> rfl) ?_
    refine am_Rn.sub [1, 2, 3, 4, 0] rfl rfl ?_
    exact hk26 v2 v3 (v4 + 1) h hk_v2 hp
  · refine am_Rn.run am_h23 4 (F' := (109, [(0, .ref 59), (1, .ref 1), (2, .ref v2), (3, .int v3), (4, .int v4), (5, .int v5)], [.int v5, .ref v2, .ref 1, .ref 59])) (S' := (am_sh, h, hm, g)) (by rcases hk_v2 with rfl | rfl | rfl | rfl | rfl <;> rfl) ?_
    obtain ⟨r16, h_r16, hp⟩ := am_bind hp
    refine am_Rn.call am_h23 (mj := 26) (As := [.ref 59, .ref 1, .ref v2, .int v5]) (F' := (112, [(0, .ref 59), (1, .ref 1), (2, .ref v2), (3, .int v3), (4, .int v4), (5, .int v5)], [])) (M' := am_m26) (r := none) (S1 := (am_sh, r16, hm, g)) (by rcases hk_v2 with rfl | rfl | rfl | rfl | rfl <;> rfl) am_h26 rfl (ezL_learnPasses (by omega) v2 v5 h _ hk_v2 h_r16) ?_
    refine am_Rn.run am_h23 2 (F' := (26, [(4, .int (v4 + 1)), (0, .ref 59), (1, .ref 1), (2, .ref v2), (3, .int v3), (5, .int v5)], [])) (S' := (am_sh, r16, hm, g)) (by rcases hk_v2 with rfl | rfl | rfl | rfl | rfl <;> rfl) ?_
    refine am_Rn.sub [1, 2, 3, 4, 0] rfl rfl ?_
    exact hk26 v2 v3 (v4 + 1) r16 hk_v2 hp
def zL_learn_L26 (k15 : Nat → Int32 → (Nat → Nat → Int32) → Option ((Nat → Nat → Int32))) : Nat → Nat → Int32 → Int32 → (Nat → Nat → Int32) → Option ((Nat → Nat → Int32))
  | 0, _, _, _, _ => none
  | n + 1, v2, v3, v4, h => if v4 < (h 1 4) then (am_b ((v3 * 6) + v4) fun x5 => am_ix 144 x5 (am_b (va_up h 62 (upd (h 62) (x5.toNatClampNeg) 0)) fun h7 => am_ix 144 x5 (am_b (va_up h7 63 (upd (h7 63) (x5.toNatClampNeg) 0)) fun h9 => am_ix 144 x5 (am_b (va_up h9 64 (upd (h9 64) (x5.toNatClampNeg) 0)) fun h11 => (zG_isOn v3 v4 h11).bind fun r12 => if r12 = 0 then (zL_learn_J94 (fun v2 v3 v4 h => zL_learn_L26 k15 n v2 v3 v4 h) v2 v3 v4 x5 h11) else ((zL_nameCase v3 v4 h11).bind fun r17 => (zL_learnHolds v2 x5 r17).bind fun r18 => zL_learn_J94 (fun v2 v3 v4 h => zL_learn_L26 k15 n v2 v3 v4 h) v2 v3 v4 x5 r18))))) else (k15 v2 (v3 + 1) h)
set_option maxRecDepth 20000 in
theorem ezL_learn_L26 {d : Nat} (hd : 5 ≤ d) (R : (Nat → Nat → Int32)) (k15 : Nat → Int32 → (Nat → Nat → Int32) → Option ((Nat → Nat → Int32))) (hk15 : ∀ (v2 : Nat) (v3 : Int32) (h : (Nat → Nat → Int32)), zK v2 → k15 v2 v3 h = some R → am_Rn 83 Xs am_P d 23 (15, [(0, .ref 59), (1, .ref 1), (2, .ref v2), (3, .int v3)], []) (am_sh, h, hm, g) (none, (am_sh, R, hm, g))) : ∀ (n : Nat) (v2 : Nat) (v3 : Int32) (v4 : Int32) (h : (Nat → Nat → Int32)), zK v2 → zL_learn_L26 k15 n v2 v3 v4 h = some R → am_Rn 83 Xs am_P d 23 (26, [(0, .ref 59), (1, .ref 1), (2, .ref v2), (3, .int v3), (4, .int v4)], []) (am_sh, h, hm, g) (none, (am_sh, R, hm, g))
  | 0, _, _, _, _, _, hp => by cases hp
  | n + 1, v2, v3, v4, h, hk_v2, hp => by
    obtain ⟨d, rfl⟩ : ∃ k, d = k + 1 := ⟨d - 1, by omega⟩
    unfold zL_learn_L26 at hp
    refine am_Rn.run am_h23 3 (F' := (32, [(0, .ref 59), (1, .ref 1), (2, .ref v2), (3, .int v3), (4, .int v4)], [.int (h 1 4), .int v4])) (S' := (am_sh, h, hm, g)) (by rcases hk_v2 with rfl | rfl | rfl | rfl | rfl <;> rfl) ?_
    refine am_Rn.ite am_h23 (c := v4 < (h 1 4)) (t := 35) (f := 118) (lv := [(0, .ref 59), (1, .ref 1), (2, .ref v2), (3, .int v3), (4, .int v4)]) (st := []) (S' := (am_sh, h, hm, g)) (by rcases hk_v2 with rfl | rfl | rfl | rfl | rfl <;> rfl) hp (fun hc4 hp => ?_) (fun hc4 hp => ?_)
    · obtain ⟨x5, h_x5, hp⟩ := am_b_e hp
      refine am_Rn.run am_h23 10 (F' := (51, [(5, .int x5), (0, .ref 59), (1, .ref 1), (2, .ref v2), (3, .int v3), (4, .int v4)], [.int 0, .int x5, .ref 62])) (S' := (am_sh, h, hm, g)) (by subst h_x5; rcases hk_v2 with rfl | rfl | rfl | rfl | rfl <;> rfl) ?_
      obtain ⟨hn6, hp⟩ := am_ix_e hp
      obtain ⟨h7, h_h7, hp⟩ := am_b_e hp
      refine am_Rn.stepG am_h23 (c := x5 < 0 ∨ 144 ≤ x5.toNatClampNeg) (F' := (52, [(5, .int x5), (0, .ref 59), (1, .ref 1), (2, .ref v2), (3, .int v3), (4, .int v4)], [])) (S' := (am_sh, h7, hm, g)) (by subst h_h7; rcases hk_v2 with rfl | rfl | rfl | rfl | rfl <;> rfl) hn6 ?_
      refine am_Rn.run am_h23 4 (F' := (59, [(5, .int x5), (0, .ref 59), (1, .ref 1), (2, .ref v2), (3, .int v3), (4, .int v4)], [.int 0, .int x5, .ref 63])) (S' := (am_sh, h7, hm, g)) (by rcases hk_v2 with rfl | rfl | rfl | rfl | rfl <;> rfl) ?_
      obtain ⟨hn8, hp⟩ := am_ix_e hp
      obtain ⟨h9, h_h9, hp⟩ := am_b_e hp
      refine am_Rn.stepG am_h23 (c := x5 < 0 ∨ 144 ≤ x5.toNatClampNeg) (F' := (60, [(5, .int x5), (0, .ref 59), (1, .ref 1), (2, .ref v2), (3, .int v3), (4, .int v4)], [])) (S' := (am_sh, h9, hm, g)) (by subst h_h9; rcases hk_v2 with rfl | rfl | rfl | rfl | rfl <;> rfl) hn8 ?_
      refine am_Rn.run am_h23 4 (F' := (67, [(5, .int x5), (0, .ref 59), (1, .ref 1), (2, .ref v2), (3, .int v3), (4, .int v4)], [.int 0, .int x5, .ref 64])) (S' := (am_sh, h9, hm, g)) (by rcases hk_v2 with rfl | rfl | rfl | rfl | rfl <;> rfl) ?_
      obtain ⟨hn10, hp⟩ := am_ix_e hp
      obtain ⟨h11, h_h11, hp⟩ := am_b_e hp
      refine am_Rn.stepG am_h23 (c := x5 < 0 ∨ 144 ≤ x5.toNatClampNeg) (F' := (68, [(5, .int x5), (0, .ref 59), (1, .ref 1), (2, .ref v2), (3, .int v3), (4, .int v4)], [])) (S' := (am_sh, h11, hm, g)) (by subst h_h11; rcases hk_v2 with rfl | rfl | rfl | rfl | rfl <;> rfl) hn10 ?_
      refine am_Rn.run am_h23 3 (F' := (72, [(5, .int x5), (0, .ref 59), (1, .ref 1), (2, .ref v2), (3, .int v3), (4, .int v4)], [.int v4, .int v3, .ref 1])) (S' := (am_sh, h11, hm, g)) (by rcases hk_v2 with rfl | rfl | rfl | rfl | rfl <;> rfl) ?_
      obtain ⟨r12, h_r12, hp⟩ := am_bind hp
      refine am_Rn.call am_h23 (mj := 85) (As := [.ref 1, .int v3, .int v4]) (F' := (75, [(5, .int x5), (0, .ref 59), (1, .ref 1), (2, .ref v2), (3, .int v3), (4, .int v4)], [])) (M' := am_m85) (r := some (.int r12)) (S1 := (am_sh, h11, hm, g)) (by rcases hk_v2 with rfl | rfl | rfl | rfl | rfl <;> rfl) am_h85 rfl (ezG_isOn (by omega) v3 v4 h11 _ h_r12) ?_
      refine am_Rn.ite am_h23 (c := r12 = 0) (t := 94) (f := 78) (lv := [(5, .int x5), (0, .ref 59), (1, .ref 1), (2, .ref v2), (3, .int v3), (4, .int v4)]) (st := []) (S' := (am_sh, h11, hm, g)) (by rcases hk_v2 with rfl | rfl | rfl | rfl | rfl <;> rfl) hp (fun hc13 hp => ?_) (fun hc13 hp => ?_)
      · refine am_Rn.sub [1, 2, 3, 4, 5, 0] rfl rfl ?_
        exact ezL_learn_J94 hd R (fun v2 v3 v4 h => zL_learn_L26 k15 n v2 v3 v4 h) (fun v2 v3 v4 h hk_v2 hp => ezL_learn_L26 hd R k15 hk15 n v2 v3 v4 h hk_v2 hp) v2 v3 v4 x5 h11 hk_v2 hp
      · refine am_Rn.run am_h23 4 (F' := (83, [(5, .int x5), (0, .ref 59), (1, .ref 1), (2, .ref v2), (3, .int v3), (4, .int v4)], [.int v4, .int v3, .ref 1, .ref 59])) (S' := (am_sh, h11, hm, g)) (by rcases hk_v2 with rfl | rfl | rfl | rfl | rfl <;> rfl) ?_
        obtain ⟨r17, h_r17, hp⟩ := am_bind hp
        refine am_Rn.call am_h23 (mj := 24) (As := [.ref 59, .ref 1, .int v3, .int v4]) (F' := (86, [(5, .int x5), (0, .ref 59), (1, .ref 1), (2, .ref v2), (3, .int v3), (4, .int v4)], [])) (M' := am_m24) (r := none) (S1 := (am_sh, r17, hm, g)) (by rcases hk_v2 with rfl | rfl | rfl | rfl | rfl <;> rfl) am_h24 rfl (ezL_nameCase (by omega) v3 v4 h11 _ h_r17) ?_
        refine am_Rn.run am_h23 4 (F' := (91, [(5, .int x5), (0, .ref 59), (1, .ref 1), (2, .ref v2), (3, .int v3), (4, .int v4)], [.int x5, .ref v2, .ref 1, .ref 59])) (S' := (am_sh, r17, hm, g)) (by rcases hk_v2 with rfl | rfl | rfl | rfl | rfl <;> rfl) ?_
        obtain ⟨r18, h_r18, hp⟩ := am_bind hp
        refine am_Rn.call am_h23 (mj := 25) (As := [.ref 59, .ref 1, .ref v2, .int x5]) (F' := (94, [(5, .int x5), (0, .ref 59), (1, .ref 1), (2, .ref v2), (3, .int v3), (4, .int v4)], [])) (M' := am_m25) (r := none) (S1 := (am_sh, r18, hm, g)) (by rcases hk_v2 with rfl | rfl | rfl | rfl | rfl <;> rfl) am_h25 rfl (ezL_learnHolds (by omega) v2 x5 r17 _ hk_v2 h_r18) ?_
        refine am_Rn.sub [1, 2, 3, 4, 5, 0] rfl rfl ?_
        exact ezL_learn_J94 hd R (fun v2 v3 v4 h => zL_learn_L26 k15 n v2 v3 v4 h) (fun v2 v3 v4 h hk_v2 hp => ezL_learn_L26 hd R k15 hk15 n v2 v3 v4 h hk_v2 hp) v2 v3 v4 x5 r18 hk_v2 hp
    · refine am_Rn.run am_h23 2 (F' := (15, [(3, .int (v3 + 1)), (0, .ref 59), (1, .ref 1), (2, .ref v2), (4, .int v4)], [])) (S' := (am_sh, h, hm, g)) (by rcases hk_v2 with rfl | rfl | rfl | rfl | rfl <;> rfl) ?_
      refine am_Rn.sub [1, 2, 3, 0] rfl rfl ?_
      exact hk15 v2 (v3 + 1) h hk_v2 hp
def zL_learn_L15 : Nat → Nat → Int32 → (Nat → Nat → Int32) → Option ((Nat → Nat → Int32))
  | 0, _, _, _ => none
  | n + 1, v2, v3, h => if v3 < (h 1 13) then (zL_learn_L26 (fun v2 v3 h => zL_learn_L15 n v2 v3 h) am_N v2 v3 0 h) else (some h)
set_option maxRecDepth 20000 in
theorem ezL_learn_L15 {d : Nat} (hd : 5 ≤ d) (R : (Nat → Nat → Int32)) : ∀ (n : Nat) (v2 : Nat) (v3 : Int32) (h : (Nat → Nat → Int32)), zK v2 → zL_learn_L15 n v2 v3 h = some R → am_Rn 83 Xs am_P d 23 (15, [(0, .ref 59), (1, .ref 1), (2, .ref v2), (3, .int v3)], []) (am_sh, h, hm, g) (none, (am_sh, R, hm, g))
  | 0, _, _, _, _, hp => by cases hp
  | n + 1, v2, v3, h, hk_v2, hp => by
    obtain ⟨d, rfl⟩ : ∃ k, d = k + 1 := ⟨d - 1, by omega⟩
    unfold zL_learn_L15 at hp
    refine am_Rn.run am_h23 3 (F' := (20, [(0, .ref 59), (1, .ref 1), (2, .ref v2), (3, .int v3)], [.int (h 1 13), .int v3])) (S' := (am_sh, h, hm, g)) (by rcases hk_v2 with rfl | rfl | rfl | rfl | rfl <;> rfl) ?_
    refine am_Rn.ite am_h23 (c := v3 < (h 1 13)) (t := 23) (f := 124) (lv := [(0, .ref 59), (1, .ref 1), (2, .ref v2), (3, .int v3)]) (st := []) (S' := (am_sh, h, hm, g)) (by rcases hk_v2 with rfl | rfl | rfl | rfl | rfl <;> rfl) hp (fun hc3 hp => ?_) (fun hc3 hp => ?_)
    · refine am_Rn.run am_h23 2 (F' := (26, [(4, .int 0), (0, .ref 59), (1, .ref 1), (2, .ref v2), (3, .int v3)], [])) (S' := (am_sh, h, hm, g)) (by rcases hk_v2 with rfl | rfl | rfl | rfl | rfl <;> rfl) ?_
      refine am_Rn.sub [1, 2, 3, 4, 0] rfl rfl ?_
      exact ezL_learn_L26 hd R (fun v2 v3 h => zL_learn_L15 n v2 v3 h) (fun v2 v3 h hk_v2 hp => ezL_learn_L15 hd R n v2 v3 h hk_v2 hp) am_N v2 v3 0 h hk_v2 hp
    · cases hp
      exact am_Rn.ret am_h23 (by rcases hk_v2 with rfl | rfl | rfl | rfl | rfl <;> rfl)
def zL_learn (v2 : Nat) (h : (Nat → Nat → Int32)) : Option ((Nat → Nat → Int32)) := if (h 59 2) = 0 then (am_b (va_up h 59 (upd (h 59) 2 1)) fun h2 => zL_learn_L15 am_N v2 0 h2) else (some h)
set_option maxRecDepth 20000 in
theorem ezL_learn {d : Nat} (hd : 5 ≤ d) (v2 : Nat) (h : (Nat → Nat → Int32)) (R : (Nat → Nat → Int32)) (hk_v2 : zK v2) (hp : zL_learn v2 h = some R) : am_Ev 83 Xs am_P d 23 [.ref 59, .ref 1, .ref v2] (am_sh, h, hm, g) (none, (am_sh, R, hm, g)) := by
  obtain ⟨d, rfl⟩ : ∃ k, d = k + 1 := ⟨d - 1, by omega⟩
  unfold zL_learn at hp
  show am_Rn 83 Xs am_P _ 23 (0, [(0, .ref 59), (1, .ref 1), (2, .ref v2)], []) _ _
  refine am_Rn.run am_h23 2 (F' := (4, [(0, .ref 59), (1, .ref 1), (2, .ref v2)], [.int (h 59 2)])) (S' := (am_sh, h, hm, g)) (by rcases hk_v2 with rfl | rfl | rfl | rfl | rfl <;> rfl) ?_
  refine am_Rn.ite am_h23 (c := (h 59 2) = 0) (t := 8) (f := 7) (lv := [(0, .ref 59), (1, .ref 1), (2, .ref v2)]) (st := []) (S' := (am_sh, h, hm, g)) (by rcases hk_v2 with rfl | rfl | rfl | rfl | rfl <;> rfl) hp (fun hc1 hp => ?_) (fun hc1 hp => ?_)
  · obtain ⟨h2, h_h2, hp⟩ := am_b_e hp
    refine am_Rn.run am_h23 5 (F' := (15, [(3, .int 0), (0, .ref 59), (1, .ref 1), (2, .ref v2)], [])) (S' := (am_sh, h2, hm, g)) (by subst h_h2; rcases hk_v2 with rfl | rfl | rfl | rfl | rfl <;> rfl) ?_
    refine am_Rn.sub [1, 2, 3, 0] rfl rfl ?_
    exact ezL_learn_L15 hd R am_N v2 0 h2 hk_v2 hp
  · cases hp
    exact am_Rn.ret am_h23 (by rcases hk_v2 with rfl | rfl | rfl | rfl | rfl <;> rfl)
/-- SixHands.ownerOfHands(I)I [] -/
def zH_ownerOfHands_L2 : Nat → Int32 → Int32 → Option (Int32)
  | 0, _, _ => none
  | n + 1, v0, v1 => if v1 < 3 then (if ((v0 >>> ((2 * v1) &&& 31)) &&& 3) = 0 then (zH_ownerOfHands_L2 n v0 (v1 + 1)) else (some v1)) else (some 0)
set_option maxRecDepth 20000 in
theorem ezH_ownerOfHands_L2 {d : Nat} (hd : 0 ≤ d) (R : Int32) : ∀ (n : Nat) (v0 : Int32) (v1 : Int32), zH_ownerOfHands_L2 n v0 v1 = some R → am_Rn 83 Xs am_P d 147 (2, [(0, .int v0), (1, .int v1)], []) S (some (.int R), S)
  | 0, _, _, hp => by cases hp
  | n + 1, v0, v1, hp => by
    unfold zH_ownerOfHands_L2 at hp
    refine am_Rn.run am_h147 2 (F' := (4, [(0, .int v0), (1, .int v1)], [.int 3, .int v1])) (S' := S) rfl ?_
    refine am_Rn.ite am_h147 (c := v1 < 3) (t := 7) (f := 25) (lv := [(0, .int v0), (1, .int v1)]) (st := []) (S' := S) rfl hp (fun hc1 hp => ?_) (fun hc1 hp => ?_)
    · refine am_Rn.run am_h147 7 (F' := (14, [(0, .int v0), (1, .int v1)], [.int ((v0 >>> ((2 * v1) &&& 31)) &&& 3)])) (S' := S) rfl ?_
      refine am_Rn.ite am_h147 (c := ((v0 >>> ((2 * v1) &&& 31)) &&& 3) = 0) (t := 19) (f := 17) (lv := [(0, .int v0), (1, .int v1)]) (st := []) (S' := S) rfl hp (fun hc2 hp => ?_) (fun hc2 hp => ?_)
      · refine am_Rn.run am_h147 2 (F' := (2, [(1, .int (v1 + 1)), (0, .int v0)], [])) (S' := S) rfl ?_
        refine am_Rn.sub [1, 0] rfl rfl ?_
        exact ezH_ownerOfHands_L2 hd R n v0 (v1 + 1) hp
      · refine am_Rn.run am_h147 1 (F' := (18, [(0, .int v0), (1, .int v1)], [.int v1])) (S' := S) rfl ?_
        cases hp
        exact am_Rn.ret am_h147 rfl
    · refine am_Rn.run am_h147 1 (F' := (26, [(0, .int v0), (1, .int v1)], [.int 0])) (S' := S) rfl ?_
      cases hp
      exact am_Rn.ret am_h147 rfl
def zH_ownerOfHands (v0 : Int32) : Option (Int32) := zH_ownerOfHands_L2 am_N v0 0
set_option maxRecDepth 20000 in
theorem ezH_ownerOfHands {d : Nat} (hd : 0 ≤ d) (v0 : Int32) (R : Int32) (hp : zH_ownerOfHands v0 = some R) : am_Ev 83 Xs am_P d 147 [.int v0] S (some (.int R), S) := by
  unfold zH_ownerOfHands at hp
  show am_Rn 83 Xs am_P _ 147 (0, [(0, .int v0)], []) _ _
  refine am_Rn.run am_h147 2 (F' := (2, [(1, .int 0), (0, .int v0)], [])) (S' := S) rfl ?_
  refine am_Rn.sub [1, 0] rfl rfl ?_
  exact ezH_ownerOfHands_L2 hd R am_N v0 0 hp
/-- SixHands$Judge.wantedWith(II)I [] -/
def zJ_wantedWith (v0 : Int32) (v1 : Int32) : Option (Int32) := if v0 = 2 then ((zH_ownerOfHands v1).bind fun r2 => some ((3 : Int32) <<< ((2 * r2) &&& 31))) else (some (v1 &&& (-v1)))
set_option maxRecDepth 20000 in
theorem ezJ_wantedWith {d : Nat} (hd : 1 ≤ d) (v0 : Int32) (v1 : Int32) (R : Int32) (hp : zJ_wantedWith v0 v1 = some R) : am_Ev 83 Xs am_P d 11 [.int v0, .int v1] S (some (.int R), S) := by
  obtain ⟨d, rfl⟩ : ∃ k, d = k + 1 := ⟨d - 1, by omega⟩
  unfold zJ_wantedWith at hp
  show am_Rn 83 Xs am_P _ 11 (0, [(0, .int v0), (1, .int v1)], []) _ _
  refine am_Rn.run am_h11 2 (F' := (2, [(0, .int v0), (1, .int v1)], [.int 2, .int v0])) (S' := S) rfl ?_
  refine am_Rn.ite am_h11 (c := v0 = 2) (t := 5) (f := 16) (lv := [(0, .int v0), (1, .int v1)]) (st := []) (S' := S) rfl hp (fun hc1 hp => ?_) (fun hc1 hp => ?_)
  · refine am_Rn.run am_h11 3 (F' := (8, [(0, .int v0), (1, .int v1)], [.int v1, .int 2, .int 3])) (S' := S) rfl ?_
    obtain ⟨r2, h_r2, hp⟩ := am_bind hp
    refine am_Rn.call am_h11 (mj := 147) (As := [.int v1]) (F' := (11, [(0, .int v0), (1, .int v1)], [.int 2, .int 3])) (M' := am_m147) (r := some (.int r2)) (S1 := S) rfl am_h147 rfl (ezH_ownerOfHands (by omega) v1 _ h_r2) ?_
    refine am_Rn.run am_h11 3 (F' := (20, [(0, .int v0), (1, .int v1)], [.int ((3 : Int32) <<< ((2 * r2) &&& 31))])) (S' := S) rfl ?_
    cases hp
    exact am_Rn.ret am_h11 rfl
  · refine am_Rn.run am_h11 4 (F' := (20, [(0, .int v0), (1, .int v1)], [.int (v1 &&& (-v1))])) (S' := S) rfl ?_
    cases hp
    exact am_Rn.ret am_h11 rfl
/-- SixHands$Judge.isHeldAsWanted(LSixHands$Stage;I)Z [1] -/
def zJ_isHeldAsWanted_L2 : Nat → Int32 → Int32 → (Nat → Nat → Int32) → Option (Int32)
  | 0, _, _, _ => none
  | n + 1, v1, v2, h => if v2 < (h 1 4) then (am_ix 144 ((v1 * 6) + v2) (am_b (h 9 (((v1 * 6) + v2).toNatClampNeg)) fun x3 => (zG_isOn v1 v2 h).bind fun r4 => if r4 = 0 then (if x3 = 0 then (zJ_isHeldAsWanted_L2 n v1 (v2 + 1) h) else (some 0)) else (if x3 = 0 then (some 0) else (am_ix 6 v2 ((zJ_wantedWith (h 4 (v2.toNatClampNeg)) x3).bind fun r9 => if x3 = r9 then (zJ_isHeldAsWanted_L2 n v1 (v2 + 1) h) else (some 0)))))) else (some 1)
set_option maxRecDepth 20000 in
theorem ezJ_isHeldAsWanted_L2 {d : Nat} (hd : 2 ≤ d) (R : Int32) : ∀ (n : Nat) (v1 : Int32) (v2 : Int32) (h : (Nat → Nat → Int32)), zJ_isHeldAsWanted_L2 n v1 v2 h = some R → am_Rn 83 Xs am_P d 10 (2, [(0, .ref 1), (1, .int v1), (2, .int v2)], []) (am_sh, h, hm, g) (some (.int R), (am_sh, h, hm, g))
  | 0, _, _, _, hp => by cases hp
  | n + 1, v1, v2, h, hp => by
    obtain ⟨d, rfl⟩ : ∃ k, d = k + 1 := ⟨d - 1, by omega⟩
    unfold zJ_isHeldAsWanted_L2 at hp
    refine am_Rn.run am_h10 3 (F' := (7, [(0, .ref 1), (1, .int v1), (2, .int v2)], [.int (h 1 4), .int v2])) (S' := (am_sh, h, hm, g)) rfl ?_
    refine am_Rn.ite am_h10 (c := v2 < (h 1 4)) (t := 10) (f := 63) (lv := [(0, .ref 1), (1, .int v1), (2, .int v2)]) (st := []) (S' := (am_sh, h, hm, g)) rfl hp (fun hc1 hp => ?_) (fun hc1 hp => ?_)
    · refine am_Rn.run am_h10 7 (F' := (20, [(0, .ref 1), (1, .int v1), (2, .int v2)], [.int ((v1 * 6) + v2), .ref 9])) (S' := (am_sh, h, hm, g)) rfl ?_
      obtain ⟨hn2, hp⟩ := am_ix_e hp
      refine am_Rn.stepG am_h10 (c := ((v1 * 6) + v2) < 0 ∨ 144 ≤ ((v1 * 6) + v2).toNatClampNeg) (F' := (21, [(0, .ref 1), (1, .int v1), (2, .int v2)], [.int (h 9 (((v1 * 6) + v2).toNatClampNeg))])) (S' := (am_sh, h, hm, g)) rfl hn2 ?_
      obtain ⟨x3, h_x3, hp⟩ := am_b_e hp
      refine am_Rn.run am_h10 4 (F' := (25, [(3, .int x3), (0, .ref 1), (1, .int v1), (2, .int v2)], [.int v2, .int v1, .ref 1])) (S' := (am_sh, h, hm, g)) (by subst h_x3; rfl) ?_
      obtain ⟨r4, h_r4, hp⟩ := am_bind hp
      refine am_Rn.call am_h10 (mj := 85) (As := [.ref 1, .int v1, .int v2]) (F' := (28, [(3, .int x3), (0, .ref 1), (1, .int v1), (2, .int v2)], [])) (M' := am_m85) (r := some (.int r4)) (S1 := (am_sh, h, hm, g)) rfl am_h85 rfl (ezG_isOn (by omega) v1 v2 h _ h_r4) ?_
      refine am_Rn.ite am_h10 (c := r4 = 0) (t := 31) (f := 37) (lv := [(3, .int x3), (0, .ref 1), (1, .int v1), (2, .int v2)]) (st := []) (S' := (am_sh, h, hm, g)) rfl hp (fun hc5 hp => ?_) (fun hc5 hp => ?_)
      · refine am_Rn.run am_h10 1 (F' := (32, [(3, .int x3), (0, .ref 1), (1, .int v1), (2, .int v2)], [.int x3])) (S' := (am_sh, h, hm, g)) rfl ?_
        refine am_Rn.ite am_h10 (c := x3 = 0) (t := 57) (f := 35) (lv := [(3, .int x3), (0, .ref 1), (1, .int v1), (2, .int v2)]) (st := []) (S' := (am_sh, h, hm, g)) rfl hp (fun hc6 hp => ?_) (fun hc6 hp => ?_)
        · refine am_Rn.run am_h10 2 (F' := (2, [(2, .int (v2 + 1)), (3, .int x3), (0, .ref 1), (1, .int v1)], [])) (S' := (am_sh, h, hm, g)) rfl ?_
          refine am_Rn.sub [2, 3, 0] rfl rfl ?_
          exact ezJ_isHeldAsWanted_L2 hd R n v1 (v2 + 1) h hp
        · refine am_Rn.run am_h10 1 (F' := (36, [(3, .int x3), (0, .ref 1), (1, .int v1), (2, .int v2)], [.int 0])) (S' := (am_sh, h, hm, g)) rfl ?_
          cases hp
          exact am_Rn.ret am_h10 rfl
      · refine am_Rn.run am_h10 1 (F' := (38, [(3, .int x3), (0, .ref 1), (1, .int v1), (2, .int v2)], [.int x3])) (S' := (am_sh, h, hm, g)) rfl ?_
        refine am_Rn.ite am_h10 (c := x3 = 0) (t := 55) (f := 41) (lv := [(3, .int x3), (0, .ref 1), (1, .int v1), (2, .int v2)]) (st := []) (S' := (am_sh, h, hm, g)) rfl hp (fun hc7 hp => ?_) (fun hc7 hp => ?_)
        · refine am_Rn.run am_h10 1 (F' := (56, [(3, .int x3), (0, .ref 1), (1, .int v1), (2, .int v2)], [.int 0])) (S' := (am_sh, h, hm, g)) rfl ?_
          cases hp
          exact am_Rn.ret am_h10 rfl
        · refine am_Rn.run am_h10 4 (F' := (47, [(3, .int x3), (0, .ref 1), (1, .int v1), (2, .int v2)], [.int v2, .ref 4, .int x3])) (S' := (am_sh, h, hm, g)) rfl ?_
          obtain ⟨hn8, hp⟩ := am_ix_e hp
          refine am_Rn.stepG am_h10 (c := v2 < 0 ∨ 6 ≤ v2.toNatClampNeg) (F' := (48, [(3, .int x3), (0, .ref 1), (1, .int v1), (2, .int v2)], [.int (h 4 (v2.toNatClampNeg)), .int x3])) (S' := (am_sh, h, hm, g)) rfl hn8 ?_
          refine am_Rn.run am_h10 1 (F' := (49, [(3, .int x3), (0, .ref 1), (1, .int v1), (2, .int v2)], [.int x3, .int (h 4 (v2.toNatClampNeg)), .int x3])) (S' := (am_sh, h, hm, g)) rfl ?_
          obtain ⟨r9, h_r9, hp⟩ := am_bind hp
          refine am_Rn.call am_h10 (mj := 11) (As := [.int (h 4 (v2.toNatClampNeg)), .int x3]) (F' := (52, [(3, .int x3), (0, .ref 1), (1, .int v1), (2, .int v2)], [.int x3])) (M' := am_m11) (r := some (.int r9)) (S1 := (am_sh, h, hm, g)) rfl am_h11 rfl (ezJ_wantedWith (by omega) (h 4 (v2.toNatClampNeg)) x3 _ h_r9) ?_
          refine am_Rn.ite am_h10 (c := x3 = r9) (t := 57) (f := 55) (lv := [(3, .int x3), (0, .ref 1), (1, .int v1), (2, .int v2)]) (st := []) (S' := (am_sh, h, hm, g)) rfl hp (fun hc10 hp => ?_) (fun hc10 hp => ?_)
          · refine am_Rn.run am_h10 2 (F' := (2, [(2, .int (v2 + 1)), (3, .int x3), (0, .ref 1), (1, .int v1)], [])) (S' := (am_sh, h, hm, g)) rfl ?_
            refine am_Rn.sub [2, 3, 0] rfl rfl ?_
            exact ezJ_isHeldAsWanted_L2 hd R n v1 (v2 + 1) h hp
          · refine am_Rn.run am_h10 1 (F' := (56, [(3, .int x3), (0, .ref 1), (1, .int v1), (2, .int v2)], [.int 0])) (S' := (am_sh, h, hm, g)) rfl ?_
            cases hp
            exact am_Rn.ret am_h10 rfl
    · refine am_Rn.run am_h10 1 (F' := (64, [(0, .ref 1), (1, .int v1), (2, .int v2)], [.int 1])) (S' := (am_sh, h, hm, g)) rfl ?_
      cases hp
      exact am_Rn.ret am_h10 rfl
def zJ_isHeldAsWanted (v1 : Int32) (h : (Nat → Nat → Int32)) : Option (Int32) := zJ_isHeldAsWanted_L2 am_N v1 0 h
set_option maxRecDepth 20000 in
theorem ezJ_isHeldAsWanted {d : Nat} (hd : 2 ≤ d) (v1 : Int32) (h : (Nat → Nat → Int32)) (R : Int32) (hp : zJ_isHeldAsWanted v1 h = some R) : am_Ev 83 Xs am_P d 10 [.ref 1, .int v1] (am_sh, h, hm, g) (some (.int R), (am_sh, h, hm, g)) := by
  obtain ⟨d, rfl⟩ : ∃ k, d = k + 1 := ⟨d - 1, by omega⟩
  unfold zJ_isHeldAsWanted at hp
  show am_Rn 83 Xs am_P _ 10 (0, [(0, .ref 1), (1, .int v1)], []) _ _
  refine am_Rn.run am_h10 2 (F' := (2, [(2, .int 0), (0, .ref 1), (1, .int v1)], [])) (S' := (am_sh, h, hm, g)) rfl ?_
  refine am_Rn.sub [1, 2, 0] rfl rfl ?_
  exact ezJ_isHeldAsWanted_L2 hd R am_N v1 0 h hp
/-- SixHands$Judge.isHeldApart(LSixHands$Stage;I)Z [1] -/
def zJ_isHeldApart_L4 : Nat → Int32 → Int32 → Int32 → (Nat → Nat → Int32) → Option (Int32)
  | 0, _, _, _, _ => none
  | n + 1, v1, v2, v3, h => if v3 < (h 1 4) then (am_ix 144 ((v1 * 6) + v3) (am_b (h 9 (((v1 * 6) + v3).toNatClampNeg)) fun x3 => if (v2 &&& x3) = 0 then (am_b (v2 ||| x3) fun x5 => zJ_isHeldApart_L4 n v1 x5 (v3 + 1) h) else (some 0))) else (some 1)
set_option maxRecDepth 20000 in
theorem ezJ_isHeldApart_L4 {d : Nat} (hd : 0 ≤ d) (R : Int32) : ∀ (n : Nat) (v1 : Int32) (v2 : Int32) (v3 : Int32) (h : (Nat → Nat → Int32)), zJ_isHeldApart_L4 n v1 v2 v3 h = some R → am_Rn 83 Xs am_P d 12 (4, [(0, .ref 1), (1, .int v1), (2, .int v2), (3, .int v3)], []) (am_sh, h, hm, g) (some (.int R), (am_sh, h, hm, g))
  | 0, _, _, _, _, hp => by cases hp
  | n + 1, v1, v2, v3, h, hp => by
    unfold zJ_isHeldApart_L4 at hp
    refine am_Rn.run am_h12 3 (F' := (9, [(0, .ref 1), (1, .int v1), (2, .int v2), (3, .int v3)], [.int (h 1 4), .int v3])) (S' := (am_sh, h, hm, g)) rfl ?_
    refine am_Rn.ite am_h12 (c := v3 < (h 1 4)) (t := 12) (f := 45) (lv := [(0, .ref 1), (1, .int v1), (2, .int v2), (3, .int v3)]) (st := []) (S' := (am_sh, h, hm, g)) rfl hp (fun hc1 hp => ?_) (fun hc1 hp => ?_)
    · refine am_Rn.run am_h12 7 (F' := (22, [(0, .ref 1), (1, .int v1), (2, .int v2), (3, .int v3)], [.int ((v1 * 6) + v3), .ref 9])) (S' := (am_sh, h, hm, g)) rfl ?_
      obtain ⟨hn2, hp⟩ := am_ix_e hp
      refine am_Rn.stepG am_h12 (c := ((v1 * 6) + v3) < 0 ∨ 144 ≤ ((v1 * 6) + v3).toNatClampNeg) (F' := (23, [(0, .ref 1), (1, .int v1), (2, .int v2), (3, .int v3)], [.int (h 9 (((v1 * 6) + v3).toNatClampNeg))])) (S' := (am_sh, h, hm, g)) rfl hn2 ?_
      obtain ⟨x3, h_x3, hp⟩ := am_b_e hp
      refine am_Rn.run am_h12 4 (F' := (29, [(4, .int x3), (0, .ref 1), (1, .int v1), (2, .int v2), (3, .int v3)], [.int (v2 &&& x3)])) (S' := (am_sh, h, hm, g)) (by subst h_x3; rfl) ?_
      refine am_Rn.ite am_h12 (c := (v2 &&& x3) = 0) (t := 34) (f := 32) (lv := [(4, .int x3), (0, .ref 1), (1, .int v1), (2, .int v2), (3, .int v3)]) (st := []) (S' := (am_sh, h, hm, g)) rfl hp (fun hc4 hp => ?_) (fun hc4 hp => ?_)
      · obtain ⟨x5, h_x5, hp⟩ := am_b_e hp
        refine am_Rn.run am_h12 6 (F' := (4, [(3, .int (v3 + 1)), (2, .int x5), (4, .int x3), (0, .ref 1), (1, .int v1)], [])) (S' := (am_sh, h, hm, g)) (by subst h_x5; rfl) ?_
        refine am_Rn.sub [3, 4, 1, 0] rfl rfl ?_
        exact ezJ_isHeldApart_L4 hd R n v1 x5 (v3 + 1) h hp
      · refine am_Rn.run am_h12 1 (F' := (33, [(4, .int x3), (0, .ref 1), (1, .int v1), (2, .int v2), (3, .int v3)], [.int 0])) (S' := (am_sh, h, hm, g)) rfl ?_
        cases hp
        exact am_Rn.ret am_h12 rfl
    · refine am_Rn.run am_h12 1 (F' := (46, [(0, .ref 1), (1, .int v1), (2, .int v2), (3, .int v3)], [.int 1])) (S' := (am_sh, h, hm, g)) rfl ?_
      cases hp
      exact am_Rn.ret am_h12 rfl
def zJ_isHeldApart (v1 : Int32) (h : (Nat → Nat → Int32)) : Option (Int32) := zJ_isHeldApart_L4 am_N v1 0 0 h
set_option maxRecDepth 20000 in
theorem ezJ_isHeldApart {d : Nat} (hd : 0 ≤ d) (v1 : Int32) (h : (Nat → Nat → Int32)) (R : Int32) (hp : zJ_isHeldApart v1 h = some R) : am_Ev 83 Xs am_P d 12 [.ref 1, .int v1] (am_sh, h, hm, g) (some (.int R), (am_sh, h, hm, g)) := by
  unfold zJ_isHeldApart at hp
  show am_Rn 83 Xs am_P _ 12 (0, [(0, .ref 1), (1, .int v1)], []) _ _
  refine am_Rn.run am_h12 4 (F' := (4, [(3, .int 0), (2, .int 0), (0, .ref 1), (1, .int v1)], [])) (S' := (am_sh, h, hm, g)) rfl ?_
  refine am_Rn.sub [2, 3, 1, 0] rfl rfl ?_
  exact ezJ_isHeldApart_L4 hd R am_N v1 0 0 h hp
/-- SixHands$Laws.fitting(II)I [59] -/
def zL_fitting (v1 : Int32) (v2 : Int32) (h : (Nat → Nat → Int32)) : Option (Int32) := am_ix 144 ((v1 * 6) + v2) (some (h 63 (((v1 * 6) + v2).toNatClampNeg)))
set_option maxRecDepth 20000 in
theorem ezL_fitting {d : Nat} (hd : 0 ≤ d) (v1 : Int32) (v2 : Int32) (h : (Nat → Nat → Int32)) (R : Int32) (hp : zL_fitting v1 v2 h = some R) : am_Ev 83 Xs am_P d 21 [.ref 59, .int v1, .int v2] (am_sh, h, hm, g) (some (.int R), (am_sh, h, hm, g)) := by
  unfold zL_fitting at hp
  show am_Rn 83 Xs am_P _ 21 (0, [(0, .ref 59), (1, .int v1), (2, .int v2)], []) _ _
  refine am_Rn.run am_h21 7 (F' := (10, [(0, .ref 59), (1, .int v1), (2, .int v2)], [.int ((v1 * 6) + v2), .ref 63])) (S' := (am_sh, h, hm, g)) rfl ?_
  obtain ⟨hn1, hp⟩ := am_ix_e hp
  refine am_Rn.stepG am_h21 (c := ((v1 * 6) + v2) < 0 ∨ 144 ≤ ((v1 * 6) + v2).toNatClampNeg) (F' := (11, [(0, .ref 59), (1, .int v1), (2, .int v2)], [.int (h 63 (((v1 * 6) + v2).toNatClampNeg))])) (S' := (am_sh, h, hm, g)) rfl hn1 ?_
  cases hp
  exact am_Rn.ret am_h21 rfl
/-- SixHands$Laws.nearing(II)I [59] -/
def zL_nearing (v1 : Int32) (v2 : Int32) (h : (Nat → Nat → Int32)) : Option (Int32) := am_ix 144 ((v1 * 6) + v2) (some (h 62 (((v1 * 6) + v2).toNatClampNeg)))
set_option maxRecDepth 20000 in
theorem ezL_nearing {d : Nat} (hd : 0 ≤ d) (v1 : Int32) (v2 : Int32) (h : (Nat → Nat → Int32)) (R : Int32) (hp : zL_nearing v1 v2 h = some R) : am_Ev 83 Xs am_P d 20 [.ref 59, .int v1, .int v2] (am_sh, h, hm, g) (some (.int R), (am_sh, h, hm, g)) := by
  unfold zL_nearing at hp
  show am_Rn 83 Xs am_P _ 20 (0, [(0, .ref 59), (1, .int v1), (2, .int v2)], []) _ _
  refine am_Rn.run am_h20 7 (F' := (10, [(0, .ref 59), (1, .int v1), (2, .int v2)], [.int ((v1 * 6) + v2), .ref 62])) (S' := (am_sh, h, hm, g)) rfl ?_
  obtain ⟨hn1, hp⟩ := am_ix_e hp
  refine am_Rn.stepG am_h20 (c := ((v1 * 6) + v2) < 0 ∨ 144 ≤ ((v1 * 6) + v2).toNatClampNeg) (F' := (11, [(0, .ref 59), (1, .int v1), (2, .int v2)], [.int (h 62 (((v1 * 6) + v2).toNatClampNeg))])) (S' := (am_sh, h, hm, g)) rfl hn1 ?_
  cases hp
  exact am_Rn.ret am_h20 rfl
end
