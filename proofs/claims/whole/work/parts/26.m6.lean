section
variable {Xs : Nat × (Nat → Int32)} {hx hm : Nat → Nat → Int32} {g : Nat → Nat → Int64} {S : am_S}
/-- SixHandsModel.findPasses(I)V [83] -/
def zM_findPasses_L22 (k14 : Int32 → Int32 → Int32 → zHM → Option (zHM)) : Nat → Int32 → Int32 → Int32 → Int32 → zHM → Option (zHM)
  | 0, _, _, _, _, _ => none
  | n + 1, v1, v2, v3, v4, w => if v4 < 3 then ((zM_placeOf v1 v2 w).bind fun r4 => if r4 < 0 then (am_ix 54 (((9 * v2) + (3 * v3)) + v4) (am_b ((va_up w.1 97 (upd (w.1 97) ((((9 * v2) + (3 * v3)) + v4).toNatClampNeg) (0 : Int32)), w.2)) fun w7 => zM_findPasses_L22 k14 n v1 v2 v3 (v4 + 1) w7)) else ((zM_mayPass v1 v2 ((1 : Int32) <<< ((2 * v3) &&& 31)) ((1 : Int32) <<< ((2 * v4) &&& 31)) w).bind fun r8 => if r8.1 = 0 then (am_ix 54 (((9 * v2) + (3 * v3)) + v4) (am_b ((va_up r8.2.1 97 (upd (r8.2.1 97) ((((9 * v2) + (3 * v3)) + v4).toNatClampNeg) (0 : Int32)), r8.2.2)) fun w11 => zM_findPasses_L22 k14 n v1 v2 v3 (v4 + 1) w11)) else (am_ix 54 (((9 * v2) + (3 * v3)) + v4) (am_b ((va_up r8.2.1 97 (upd (r8.2.1 97) ((((9 * v2) + (3 * v3)) + v4).toNatClampNeg) (1 : Int32)), r8.2.2)) fun w13 => zM_findPasses_L22 k14 n v1 v2 v3 (v4 + 1) w13)))) else (k14 v1 v2 (v3 + 1) w)
set_option maxRecDepth 20000 in
theorem ezM_findPasses_L22 {d : Nat} (hd : 5 ≤ d) (R : zHM) (k14 : Int32 → Int32 → Int32 → zHM → Option (zHM)) (hk14 : ∀ (v1 : Int32) (v2 : Int32) (v3 : Int32) (w : zHM), k14 v1 v2 v3 w = some R → am_Rn 83 Xs am_P d 239 (14, [(0, .ref 83), (1, .int v1), (2, .int v2), (3, .int v3)], []) (am_sh, hx, w.1, w.2) (none, (am_sh, hx, R.1, R.2))) : ∀ (n : Nat) (v1 : Int32) (v2 : Int32) (v3 : Int32) (v4 : Int32) (w : zHM), zM_findPasses_L22 k14 n v1 v2 v3 v4 w = some R → am_Rn 83 Xs am_P d 239 (22, [(0, .ref 83), (1, .int v1), (2, .int v2), (3, .int v3), (4, .int v4)], []) (am_sh, hx, w.1, w.2) (none, (am_sh, hx, R.1, R.2))
  | 0, _, _, _, _, _, hp => by cases hp
  | n + 1, v1, v2, v3, v4, w, hp => by
    obtain ⟨d, rfl⟩ : ∃ k, d = k + 1 := ⟨d - 1, by omega⟩
    unfold zM_findPasses_L22 at hp
    refine am_Rn.run am_h239 2 (F' := (25, [(0, .ref 83), (1, .int v1), (2, .int v2), (3, .int v3), (4, .int v4)], [.int 3, .int v4])) (S' := (am_sh, hx, w.1, w.2)) rfl ?_
    refine am_Rn.ite am_h239 (c := v4 < 3) (t := 28) (f := 84) (lv := [(0, .ref 83), (1, .int v1), (2, .int v2), (3, .int v3), (4, .int v4)]) (st := []) (S' := (am_sh, hx, w.1, w.2)) rfl hp (fun hc3 hp => ?_) (fun hc3 hp => ?_)
    · refine am_Rn.run am_h239 14 (F' := (46, [(0, .ref 83), (1, .int v1), (2, .int v2), (3, .int v3), (4, .int v4)], [.int v2, .int v1, .ref 83, .int (((9 * v2) + (3 * v3)) + v4), .ref 97])) (S' := (am_sh, hx, w.1, w.2)) rfl ?_
      obtain ⟨r4, h_r4, hp⟩ := am_bind hp
      refine am_Rn.call am_h239 (mj := 159) (As := [.ref 83, .int v1, .int v2]) (F' := (49, [(0, .ref 83), (1, .int v1), (2, .int v2), (3, .int v3), (4, .int v4)], [.int (((9 * v2) + (3 * v3)) + v4), .ref 97])) (M' := am_m159) (r := some (.int r4)) (S1 := (am_sh, hx, w.1, w.2)) rfl am_h159 rfl (ezM_placeOf (by omega) v1 v2 w _ h_r4) ?_
      refine am_Rn.ite am_h239 (c := r4 < 0) (t := 76) (f := 52) (lv := [(0, .ref 83), (1, .int v1), (2, .int v2), (3, .int v3), (4, .int v4)]) (st := [.int (((9 * v2) + (3 * v3)) + v4), .ref 97]) (S' := (am_sh, hx, w.1, w.2)) rfl hp (fun hc5 hp => ?_) (fun hc5 hp => ?_)
      · refine am_Rn.run am_h239 1 (F' := (77, [(0, .ref 83), (1, .int v1), (2, .int v2), (3, .int v3), (4, .int v4)], [.int 0, .int (((9 * v2) + (3 * v3)) + v4), .ref 97])) (S' := (am_sh, hx, w.1, w.2)) rfl ?_
        obtain ⟨hn6, hp⟩ := am_ix_e hp
        obtain ⟨w7, h_w7, hp⟩ := am_b_e hp
        refine am_Rn.stepG am_h239 (c := (((9 * v2) + (3 * v3)) + v4) < 0 ∨ 54 ≤ (((9 * v2) + (3 * v3)) + v4).toNatClampNeg) (F' := (78, [(0, .ref 83), (1, .int v1), (2, .int v2), (3, .int v3), (4, .int v4)], [])) (S' := (am_sh, hx, w7.1, w7.2)) (by subst h_w7; rfl) hn6 ?_
        refine am_Rn.run am_h239 2 (F' := (22, [(4, .int (v4 + 1)), (0, .ref 83), (1, .int v1), (2, .int v2), (3, .int v3)], [])) (S' := (am_sh, hx, w7.1, w7.2)) rfl ?_
        refine am_Rn.sub [1, 2, 3, 4, 0] rfl rfl ?_
        exact ezM_findPasses_L22 hd R k14 hk14 n v1 v2 v3 (v4 + 1) w7 hp
      · refine am_Rn.run am_h239 13 (F' := (66, [(0, .ref 83), (1, .int v1), (2, .int v2), (3, .int v3), (4, .int v4)], [.int ((1 : Int32) <<< ((2 * v4) &&& 31)), .int ((1 : Int32) <<< ((2 * v3) &&& 31)), .int v2, .int v1, .ref 83, .int (((9 * v2) + (3 * v3)) + v4), .ref 97])) (S' := (am_sh, hx, w.1, w.2)) rfl ?_
        obtain ⟨r8, h_r8, hp⟩ := am_bind hp
        refine am_Rn.call am_h239 (mj := 216) (As := [.ref 83, .int v1, .int v2, .int ((1 : Int32) <<< ((2 * v3) &&& 31)), .int ((1 : Int32) <<< ((2 * v4) &&& 31))]) (F' := (69, [(0, .ref 83), (1, .int v1), (2, .int v2), (3, .int v3), (4, .int v4)], [.int (((9 * v2) + (3 * v3)) + v4), .ref 97])) (M' := am_m216) (r := some (.int r8.1)) (S1 := (am_sh, hx, r8.2.1, r8.2.2)) rfl am_h216 rfl (ezM_mayPass (by omega) v1 v2 ((1 : Int32) <<< ((2 * v3) &&& 31)) ((1 : Int32) <<< ((2 * v4) &&& 31)) w _ h_r8) ?_
        refine am_Rn.ite am_h239 (c := r8.1 = 0) (t := 76) (f := 72) (lv := [(0, .ref 83), (1, .int v1), (2, .int v2), (3, .int v3), (4, .int v4)]) (st := [.int (((9 * v2) + (3 * v3)) + v4), .ref 97]) (S' := (am_sh, hx, r8.2.1, r8.2.2)) rfl hp (fun hc9 hp => ?_) (fun hc9 hp => ?_)
        · refine am_Rn.run am_h239 1 (F' := (77, [(0, .ref 83), (1, .int v1), (2, .int v2), (3, .int v3), (4, .int v4)], [.int 0, .int (((9 * v2) + (3 * v3)) + v4), .ref 97])) (S' := (am_sh, hx, r8.2.1, r8.2.2)) rfl ?_
          obtain ⟨hn10, hp⟩ := am_ix_e hp
          obtain ⟨w11, h_w11, hp⟩ := am_b_e hp
          refine am_Rn.stepG am_h239 (c := (((9 * v2) + (3 * v3)) + v4) < 0 ∨ 54 ≤ (((9 * v2) + (3 * v3)) + v4).toNatClampNeg) (F' := (78, [(0, .ref 83), (1, .int v1), (2, .int v2), (3, .int v3), (4, .int v4)], [])) (S' := (am_sh, hx, w11.1, w11.2)) (by subst h_w11; rfl) hn10 ?_
          refine am_Rn.run am_h239 2 (F' := (22, [(4, .int (v4 + 1)), (0, .ref 83), (1, .int v1), (2, .int v2), (3, .int v3)], [])) (S' := (am_sh, hx, w11.1, w11.2)) rfl ?_
          refine am_Rn.sub [1, 2, 3, 4, 0] rfl rfl ?_
          exact ezM_findPasses_L22 hd R k14 hk14 n v1 v2 v3 (v4 + 1) w11 hp
        · refine am_Rn.run am_h239 2 (F' := (77, [(0, .ref 83), (1, .int v1), (2, .int v2), (3, .int v3), (4, .int v4)], [.int 1, .int (((9 * v2) + (3 * v3)) + v4), .ref 97])) (S' := (am_sh, hx, r8.2.1, r8.2.2)) rfl ?_
          obtain ⟨hn12, hp⟩ := am_ix_e hp
          obtain ⟨w13, h_w13, hp⟩ := am_b_e hp
          refine am_Rn.stepG am_h239 (c := (((9 * v2) + (3 * v3)) + v4) < 0 ∨ 54 ≤ (((9 * v2) + (3 * v3)) + v4).toNatClampNeg) (F' := (78, [(0, .ref 83), (1, .int v1), (2, .int v2), (3, .int v3), (4, .int v4)], [])) (S' := (am_sh, hx, w13.1, w13.2)) (by subst h_w13; rfl) hn12 ?_
          refine am_Rn.run am_h239 2 (F' := (22, [(4, .int (v4 + 1)), (0, .ref 83), (1, .int v1), (2, .int v2), (3, .int v3)], [])) (S' := (am_sh, hx, w13.1, w13.2)) rfl ?_
          refine am_Rn.sub [1, 2, 3, 4, 0] rfl rfl ?_
          exact ezM_findPasses_L22 hd R k14 hk14 n v1 v2 v3 (v4 + 1) w13 hp
    · refine am_Rn.run am_h239 2 (F' := (14, [(3, .int (v3 + 1)), (0, .ref 83), (1, .int v1), (2, .int v2), (4, .int v4)], [])) (S' := (am_sh, hx, w.1, w.2)) rfl ?_
      refine am_Rn.sub [1, 2, 3, 0] rfl rfl ?_
      exact hk14 v1 v2 (v3 + 1) w hp
def zM_findPasses_L14 (k2 : Int32 → Int32 → zHM → Option (zHM)) : Nat → Int32 → Int32 → Int32 → zHM → Option (zHM)
  | 0, _, _, _, _ => none
  | n + 1, v1, v2, v3, w => if v3 < 3 then (zM_findPasses_L22 (fun v1 v2 v3 w => zM_findPasses_L14 k2 n v1 v2 v3 w) am_N v1 v2 v3 0 w) else (k2 v1 (v2 + 1) w)
set_option maxRecDepth 20000 in
theorem ezM_findPasses_L14 {d : Nat} (hd : 5 ≤ d) (R : zHM) (k2 : Int32 → Int32 → zHM → Option (zHM)) (hk2 : ∀ (v1 : Int32) (v2 : Int32) (w : zHM), k2 v1 v2 w = some R → am_Rn 83 Xs am_P d 239 (2, [(0, .ref 83), (1, .int v1), (2, .int v2)], []) (am_sh, hx, w.1, w.2) (none, (am_sh, hx, R.1, R.2))) : ∀ (n : Nat) (v1 : Int32) (v2 : Int32) (v3 : Int32) (w : zHM), zM_findPasses_L14 k2 n v1 v2 v3 w = some R → am_Rn 83 Xs am_P d 239 (14, [(0, .ref 83), (1, .int v1), (2, .int v2), (3, .int v3)], []) (am_sh, hx, w.1, w.2) (none, (am_sh, hx, R.1, R.2))
  | 0, _, _, _, _, hp => by cases hp
  | n + 1, v1, v2, v3, w, hp => by
    obtain ⟨d, rfl⟩ : ∃ k, d = k + 1 := ⟨d - 1, by omega⟩
    unfold zM_findPasses_L14 at hp
    refine am_Rn.run am_h239 2 (F' := (16, [(0, .ref 83), (1, .int v1), (2, .int v2), (3, .int v3)], [.int 3, .int v3])) (S' := (am_sh, hx, w.1, w.2)) rfl ?_
    refine am_Rn.ite am_h239 (c := v3 < 3) (t := 19) (f := 90) (lv := [(0, .ref 83), (1, .int v1), (2, .int v2), (3, .int v3)]) (st := []) (S' := (am_sh, hx, w.1, w.2)) rfl hp (fun hc2 hp => ?_) (fun hc2 hp => ?_)
    · refine am_Rn.run am_h239 2 (F' := (22, [(4, .int 0), (0, .ref 83), (1, .int v1), (2, .int v2), (3, .int v3)], [])) (S' := (am_sh, hx, w.1, w.2)) rfl ?_
      refine am_Rn.sub [1, 2, 3, 4, 0] rfl rfl ?_
      exact ezM_findPasses_L22 hd R (fun v1 v2 v3 w => zM_findPasses_L14 k2 n v1 v2 v3 w) (fun v1 v2 v3 w hp => ezM_findPasses_L14 hd R k2 hk2 n v1 v2 v3 w hp) am_N v1 v2 v3 0 w hp
    · refine am_Rn.run am_h239 2 (F' := (2, [(2, .int (v2 + 1)), (0, .ref 83), (1, .int v1), (3, .int v3)], [])) (S' := (am_sh, hx, w.1, w.2)) rfl ?_
      refine am_Rn.sub [1, 2, 0] rfl rfl ?_
      exact hk2 v1 (v2 + 1) w hp
def zM_findPasses_L2 : Nat → Int32 → Int32 → zHM → Option (zHM)
  | 0, _, _, _ => none
  | n + 1, v1, v2, w => if v2 < (w.1 84 1) then (zM_findPasses_L14 (fun v1 v2 w => zM_findPasses_L2 n v1 v2 w) am_N v1 v2 0 w) else (some w)
set_option maxRecDepth 20000 in
theorem ezM_findPasses_L2 {d : Nat} (hd : 5 ≤ d) (R : zHM) : ∀ (n : Nat) (v1 : Int32) (v2 : Int32) (w : zHM), zM_findPasses_L2 n v1 v2 w = some R → am_Rn 83 Xs am_P d 239 (2, [(0, .ref 83), (1, .int v1), (2, .int v2)], []) (am_sh, hx, w.1, w.2) (none, (am_sh, hx, R.1, R.2))
  | 0, _, _, _, hp => by cases hp
  | n + 1, v1, v2, w, hp => by
    obtain ⟨d, rfl⟩ : ∃ k, d = k + 1 := ⟨d - 1, by omega⟩
    unfold zM_findPasses_L2 at hp
    refine am_Rn.run am_h239 5 (F' := (9, [(0, .ref 83), (1, .int v1), (2, .int v2)], [.int (w.1 84 1), .int v2])) (S' := (am_sh, hx, w.1, w.2)) rfl ?_
    refine am_Rn.ite am_h239 (c := v2 < (w.1 84 1)) (t := 12) (f := 96) (lv := [(0, .ref 83), (1, .int v1), (2, .int v2)]) (st := []) (S' := (am_sh, hx, w.1, w.2)) rfl hp (fun hc1 hp => ?_) (fun hc1 hp => ?_)
    · refine am_Rn.run am_h239 2 (F' := (14, [(3, .int 0), (0, .ref 83), (1, .int v1), (2, .int v2)], [])) (S' := (am_sh, hx, w.1, w.2)) rfl ?_
      refine am_Rn.sub [1, 2, 3, 0] rfl rfl ?_
      exact ezM_findPasses_L14 hd R (fun v1 v2 w => zM_findPasses_L2 n v1 v2 w) (fun v1 v2 w hp => ezM_findPasses_L2 hd R n v1 v2 w hp) am_N v1 v2 0 w hp
    · cases hp
      exact am_Rn.ret am_h239 rfl
def zM_findPasses (v1 : Int32) (w : zHM) : Option (zHM) := zM_findPasses_L2 am_N v1 0 w
set_option maxRecDepth 20000 in
theorem ezM_findPasses {d : Nat} (hd : 5 ≤ d) (v1 : Int32) (w : zHM) (R : zHM) (hp : zM_findPasses v1 w = some R) : am_Ev 83 Xs am_P d 239 [.ref 83, .int v1] (am_sh, hx, w.1, w.2) (none, (am_sh, hx, R.1, R.2)) := by
  obtain ⟨d, rfl⟩ : ∃ k, d = k + 1 := ⟨d - 1, by omega⟩
  unfold zM_findPasses at hp
  show am_Rn 83 Xs am_P _ 239 (0, [(0, .ref 83), (1, .int v1)], []) _ _
  refine am_Rn.run am_h239 2 (F' := (2, [(2, .int 0), (0, .ref 83), (1, .int v1)], [])) (S' := (am_sh, hx, w.1, w.2)) rfl ?_
  refine am_Rn.sub [1, 2, 0] rfl rfl ?_
  exact ezM_findPasses_L2 hd R am_N v1 0 w hp
/-- SixHandsModel.setOf(III)I [83] -/
def zM_setOf (v1 : Int32) (v2 : Int32) (v3 : Int32) (w : zHM) : Option (Int32) := am_ix 103680 ((6 * ((720 * v1) + v2)) + v3) (some (w.1 92 (((6 * ((720 * v1) + v2)) + v3).toNatClampNeg)))
set_option maxRecDepth 20000 in
theorem ezM_setOf {d : Nat} (hd : 0 ≤ d) (v1 : Int32) (v2 : Int32) (v3 : Int32) (w : zHM) (R : Int32) (hp : zM_setOf v1 v2 v3 w = some R) : am_Ev 83 Xs am_P d 240 [.ref 83, .int v1, .int v2, .int v3] (am_sh, hx, w.1, w.2) (some (.int R), (am_sh, hx, w.1, w.2)) := by
  unfold zM_setOf at hp
  show am_Rn 83 Xs am_P _ 240 (0, [(0, .ref 83), (1, .int v1), (2, .int v2), (3, .int v3)], []) _ _
  refine am_Rn.run am_h240 11 (F' := (16, [(0, .ref 83), (1, .int v1), (2, .int v2), (3, .int v3)], [.int ((6 * ((720 * v1) + v2)) + v3), .ref 92])) (S' := (am_sh, hx, w.1, w.2)) rfl ?_
  obtain ⟨hn1, hp⟩ := am_ix_e hp
  refine am_Rn.stepG am_h240 (c := ((6 * ((720 * v1) + v2)) + v3) < 0 ∨ 103680 ≤ ((6 * ((720 * v1) + v2)) + v3).toNatClampNeg) (F' := (17, [(0, .ref 83), (1, .int v1), (2, .int v2), (3, .int v3)], [.int (w.1 92 (((6 * ((720 * v1) + v2)) + v3).toNatClampNeg))])) (S' := (am_sh, hx, w.1, w.2)) rfl hn1 ?_
  cases hp
  exact am_Rn.ret am_h240 rfl
/-- SixHandsModel.swapped(III)I [83] -/
def zM_swapped_L6 : Nat → Int32 → Int32 → Int32 → Int32 → Int32 → zHM → Option (Int32)
  | 0, _, _, _, _, _, _ => none
  | n + 1, v1, v2, v3, v4, v5, w => if v5 < (w.1 84 1) then ((zM_setOf (v1 - 1) v2 v5 w).bind fun r2 => (zM_setOf v1 v3 v5 w).bind fun r3 => if r2 = 0 then (zM_swapped_L6 n v1 v2 v3 v4 (v5 + 1) w) else (if r3 = 0 then (zM_swapped_L6 n v1 v2 v3 v4 (v5 + 1) w) else (if r2 = r3 then (zM_swapped_L6 n v1 v2 v3 v4 (v5 + 1) w) else ((zM_lowest r2).bind fun r7 => (zM_lowest r3).bind fun r8 => am_ix 54 (((9 * v5) + (3 * (r7 / 2))) + (r8 / 2)) (if (w.1 97 ((((9 * v5) + (3 * (r7 / 2))) + (r8 / 2)).toNatClampNeg)) = 0 then (some 1000000) else (zM_swapped_L6 n v1 v2 v3 (v4 + 1) (v5 + 1) w)))))) else (some v4)
set_option maxRecDepth 20000 in
theorem ezM_swapped_L6 {d : Nat} (hd : 1 ≤ d) (R : Int32) : ∀ (n : Nat) (v1 : Int32) (v2 : Int32) (v3 : Int32) (v4 : Int32) (v5 : Int32) (w : zHM), zM_swapped_L6 n v1 v2 v3 v4 v5 w = some R → am_Rn 83 Xs am_P d 241 (6, [(0, .ref 83), (1, .int v1), (2, .int v2), (3, .int v3), (4, .int v4), (5, .int v5)], []) (am_sh, hx, w.1, w.2) (some (.int R), (am_sh, hx, w.1, w.2))
  | 0, _, _, _, _, _, _, hp => by cases hp
  | n + 1, v1, v2, v3, v4, v5, w, hp => by
    obtain ⟨d, rfl⟩ : ∃ k, d = k + 1 := ⟨d - 1, by omega⟩
    unfold zM_swapped_L6 at hp
    refine am_Rn.run am_h241 5 (F' := (14, [(0, .ref 83), (1, .int v1), (2, .int v2), (3, .int v3), (4, .int v4), (5, .int v5)], [.int (w.1 84 1), .int v5])) (S' := (am_sh, hx, w.1, w.2)) rfl ?_
    refine am_Rn.ite am_h241 (c := v5 < (w.1 84 1)) (t := 17) (f := 103) (lv := [(0, .ref 83), (1, .int v1), (2, .int v2), (3, .int v3), (4, .int v4), (5, .int v5)]) (st := []) (S' := (am_sh, hx, w.1, w.2)) rfl hp (fun hc1 hp => ?_) (fun hc1 hp => ?_)
    · refine am_Rn.run am_h241 6 (F' := (24, [(0, .ref 83), (1, .int v1), (2, .int v2), (3, .int v3), (4, .int v4), (5, .int v5)], [.int v5, .int v2, .int (v1 - 1), .ref 83])) (S' := (am_sh, hx, w.1, w.2)) rfl ?_
      obtain ⟨r2, h_r2, hp⟩ := am_bind hp
      refine am_Rn.call am_h241 (mj := 240) (As := [.ref 83, .int (v1 - 1), .int v2, .int v5]) (F' := (27, [(0, .ref 83), (1, .int v1), (2, .int v2), (3, .int v3), (4, .int v4), (5, .int v5)], [])) (M' := am_m240) (r := some (.int r2)) (S1 := (am_sh, hx, w.1, w.2)) rfl am_h240 rfl (ezM_setOf (by omega) (v1 - 1) v2 v5 w _ h_r2) ?_
      refine am_Rn.run am_h241 5 (F' := (34, [(6, .int r2), (0, .ref 83), (1, .int v1), (2, .int v2), (3, .int v3), (4, .int v4), (5, .int v5)], [.int v5, .int v3, .int v1, .ref 83])) (S' := (am_sh, hx, w.1, w.2)) rfl ?_
      obtain ⟨r3, h_r3, hp⟩ := am_bind hp
      refine am_Rn.call am_h241 (mj := 240) (As := [.ref 83, .int v1, .int v3, .int v5]) (F' := (37, [(6, .int r2), (0, .ref 83), (1, .int v1), (2, .int v2), (3, .int v3), (4, .int v4), (5, .int v5)], [])) (M' := am_m240) (r := some (.int r3)) (S1 := (am_sh, hx, w.1, w.2)) rfl am_h240 rfl (ezM_setOf (by omega) v1 v3 v5 w _ h_r3) ?_
      refine am_Rn.run am_h241 2 (F' := (41, [(7, .int r3), (6, .int r2), (0, .ref 83), (1, .int v1), (2, .int v2), (3, .int v3), (4, .int v4), (5, .int v5)], [.int r2])) (S' := (am_sh, hx, w.1, w.2)) rfl ?_
      refine am_Rn.ite am_h241 (c := r2 = 0) (t := 97) (f := 44) (lv := [(7, .int r3), (6, .int r2), (0, .ref 83), (1, .int v1), (2, .int v2), (3, .int v3), (4, .int v4), (5, .int v5)]) (st := []) (S' := (am_sh, hx, w.1, w.2)) rfl hp (fun hc4 hp => ?_) (fun hc4 hp => ?_)
      · refine am_Rn.run am_h241 2 (F' := (6, [(5, .int (v5 + 1)), (7, .int r3), (6, .int r2), (0, .ref 83), (1, .int v1), (2, .int v2), (3, .int v3), (4, .int v4)], [])) (S' := (am_sh, hx, w.1, w.2)) rfl ?_
        refine am_Rn.sub [3, 4, 5, 6, 7, 0] rfl rfl ?_
        exact ezM_swapped_L6 hd R n v1 v2 v3 v4 (v5 + 1) w hp
      · refine am_Rn.run am_h241 1 (F' := (46, [(7, .int r3), (6, .int r2), (0, .ref 83), (1, .int v1), (2, .int v2), (3, .int v3), (4, .int v4), (5, .int v5)], [.int r3])) (S' := (am_sh, hx, w.1, w.2)) rfl ?_
        refine am_Rn.ite am_h241 (c := r3 = 0) (t := 97) (f := 49) (lv := [(7, .int r3), (6, .int r2), (0, .ref 83), (1, .int v1), (2, .int v2), (3, .int v3), (4, .int v4), (5, .int v5)]) (st := []) (S' := (am_sh, hx, w.1, w.2)) rfl hp (fun hc5 hp => ?_) (fun hc5 hp => ?_)
        · refine am_Rn.run am_h241 2 (F' := (6, [(5, .int (v5 + 1)), (7, .int r3), (6, .int r2), (0, .ref 83), (1, .int v1), (2, .int v2), (3, .int v3), (4, .int v4)], [])) (S' := (am_sh, hx, w.1, w.2)) rfl ?_
          refine am_Rn.sub [3, 4, 5, 6, 7, 0] rfl rfl ?_
          exact ezM_swapped_L6 hd R n v1 v2 v3 v4 (v5 + 1) w hp
        · refine am_Rn.run am_h241 2 (F' := (53, [(7, .int r3), (6, .int r2), (0, .ref 83), (1, .int v1), (2, .int v2), (3, .int v3), (4, .int v4), (5, .int v5)], [.int r3, .int r2])) (S' := (am_sh, hx, w.1, w.2)) rfl ?_
          refine am_Rn.ite am_h241 (c := r2 = r3) (t := 56) (f := 59) (lv := [(7, .int r3), (6, .int r2), (0, .ref 83), (1, .int v1), (2, .int v2), (3, .int v3), (4, .int v4), (5, .int v5)]) (st := []) (S' := (am_sh, hx, w.1, w.2)) rfl hp (fun hc6 hp => ?_) (fun hc6 hp => ?_)
          · refine am_Rn.run am_h241 3 (F' := (6, [(5, .int (v5 + 1)), (7, .int r3), (6, .int r2), (0, .ref 83), (1, .int v1), (2, .int v2), (3, .int v3), (4, .int v4)], [])) (S' := (am_sh, hx, w.1, w.2)) rfl ?_
            refine am_Rn.sub [3, 4, 5, 6, 7, 0] rfl rfl ?_
            exact ezM_swapped_L6 hd R n v1 v2 v3 v4 (v5 + 1) w hp
          · refine am_Rn.run am_h241 7 (F' := (71, [(7, .int r3), (6, .int r2), (0, .ref 83), (1, .int v1), (2, .int v2), (3, .int v3), (4, .int v4), (5, .int v5)], [.int r2, .int 3, .int (9 * v5), .ref 97])) (S' := (am_sh, hx, w.1, w.2)) rfl ?_
            obtain ⟨r7, h_r7, hp⟩ := am_bind hp
            refine am_Rn.call am_h241 (mj := 214) (As := [.int r2]) (F' := (74, [(7, .int r3), (6, .int r2), (0, .ref 83), (1, .int v1), (2, .int v2), (3, .int v3), (4, .int v4), (5, .int v5)], [.int 3, .int (9 * v5), .ref 97])) (M' := am_m214) (r := some (.int r7)) (S1 := (am_sh, hx, w.1, w.2)) rfl am_h214 rfl (ezM_lowest (by omega) r2 _ h_r7) ?_
            refine am_Rn.run am_h241 5 (F' := (80, [(7, .int r3), (6, .int r2), (0, .ref 83), (1, .int v1), (2, .int v2), (3, .int v3), (4, .int v4), (5, .int v5)], [.int r3, .int ((9 * v5) + (3 * (r7 / 2))), .ref 97])) (S' := (am_sh, hx, w.1, w.2)) rfl ?_
            obtain ⟨r8, h_r8, hp⟩ := am_bind hp
            refine am_Rn.call am_h241 (mj := 214) (As := [.int r3]) (F' := (83, [(7, .int r3), (6, .int r2), (0, .ref 83), (1, .int v1), (2, .int v2), (3, .int v3), (4, .int v4), (5, .int v5)], [.int ((9 * v5) + (3 * (r7 / 2))), .ref 97])) (M' := am_m214) (r := some (.int r8)) (S1 := (am_sh, hx, w.1, w.2)) rfl am_h214 rfl (ezM_lowest (by omega) r3 _ h_r8) ?_
            refine am_Rn.run am_h241 3 (F' := (86, [(7, .int r3), (6, .int r2), (0, .ref 83), (1, .int v1), (2, .int v2), (3, .int v3), (4, .int v4), (5, .int v5)], [.int (((9 * v5) + (3 * (r7 / 2))) + (r8 / 2)), .ref 97])) (S' := (am_sh, hx, w.1, w.2)) rfl ?_
            obtain ⟨hn9, hp⟩ := am_ix_e hp
            refine am_Rn.stepG am_h241 (c := (((9 * v5) + (3 * (r7 / 2))) + (r8 / 2)) < 0 ∨ 54 ≤ (((9 * v5) + (3 * (r7 / 2))) + (r8 / 2)).toNatClampNeg) (F' := (87, [(7, .int r3), (6, .int r2), (0, .ref 83), (1, .int v1), (2, .int v2), (3, .int v3), (4, .int v4), (5, .int v5)], [.int (w.1 97 ((((9 * v5) + (3 * (r7 / 2))) + (r8 / 2)).toNatClampNeg))])) (S' := (am_sh, hx, w.1, w.2)) rfl hn9 ?_
            refine am_Rn.ite am_h241 (c := (w.1 97 ((((9 * v5) + (3 * (r7 / 2))) + (r8 / 2)).toNatClampNeg)) = 0) (t := 90) (f := 94) (lv := [(7, .int r3), (6, .int r2), (0, .ref 83), (1, .int v1), (2, .int v2), (3, .int v3), (4, .int v4), (5, .int v5)]) (st := []) (S' := (am_sh, hx, w.1, w.2)) rfl hp (fun hc10 hp => ?_) (fun hc10 hp => ?_)
            · refine am_Rn.run am_h241 1 (F' := (93, [(7, .int r3), (6, .int r2), (0, .ref 83), (1, .int v1), (2, .int v2), (3, .int v3), (4, .int v4), (5, .int v5)], [.int 1000000])) (S' := (am_sh, hx, w.1, w.2)) rfl ?_
              cases hp
              exact am_Rn.ret am_h241 rfl
            · refine am_Rn.run am_h241 3 (F' := (6, [(5, .int (v5 + 1)), (4, .int (v4 + 1)), (7, .int r3), (6, .int r2), (0, .ref 83), (1, .int v1), (2, .int v2), (3, .int v3)], [])) (S' := (am_sh, hx, w.1, w.2)) rfl ?_
              refine am_Rn.sub [4, 5, 6, 7, 1, 0] rfl rfl ?_
              exact ezM_swapped_L6 hd R n v1 v2 v3 (v4 + 1) (v5 + 1) w hp
    · refine am_Rn.run am_h241 1 (F' := (105, [(0, .ref 83), (1, .int v1), (2, .int v2), (3, .int v3), (4, .int v4), (5, .int v5)], [.int v4])) (S' := (am_sh, hx, w.1, w.2)) rfl ?_
      cases hp
      exact am_Rn.ret am_h241 rfl
def zM_swapped (v1 : Int32) (v2 : Int32) (v3 : Int32) (w : zHM) : Option (Int32) := zM_swapped_L6 am_N v1 v2 v3 0 0 w
set_option maxRecDepth 20000 in
theorem ezM_swapped {d : Nat} (hd : 1 ≤ d) (v1 : Int32) (v2 : Int32) (v3 : Int32) (w : zHM) (R : Int32) (hp : zM_swapped v1 v2 v3 w = some R) : am_Ev 83 Xs am_P d 241 [.ref 83, .int v1, .int v2, .int v3] (am_sh, hx, w.1, w.2) (some (.int R), (am_sh, hx, w.1, w.2)) := by
  obtain ⟨d, rfl⟩ : ∃ k, d = k + 1 := ⟨d - 1, by omega⟩
  unfold zM_swapped at hp
  show am_Rn 83 Xs am_P _ 241 (0, [(0, .ref 83), (1, .int v1), (2, .int v2), (3, .int v3)], []) _ _
  refine am_Rn.run am_h241 4 (F' := (6, [(5, .int 0), (4, .int 0), (0, .ref 83), (1, .int v1), (2, .int v2), (3, .int v3)], [])) (S' := (am_sh, hx, w.1, w.2)) rfl ?_
  refine am_Rn.sub [2, 3, 4, 5, 1, 0] rfl rfl ?_
  exact ezM_swapped_L6 hd R am_N v1 v2 v3 0 0 w hp
/-- SixHandsModel.leastFrom(II)I [83] -/
def zM_leastFrom_L7 : Nat → Int32 → Int32 → Int32 → Int32 → zHM → Option (Int32)
  | 0, _, _, _, _, _ => none
  | n + 1, v1, v2, v3, v4, w => am_ix 24 (v1 + 1) (if v4 < (w.1 93 ((v1 + 1).toNatClampNeg)) then (am_ix 17280 ((720 * (v1 + 1)) + v4) (am_b (w.1 94 (((720 * (v1 + 1)) + v4).toNatClampNeg)) fun x4 => if x4 < v3 then ((zM_swapped (v1 + 1) v2 v4 w).bind fun r6 => am_b (r6 + x4) fun x7 => if x7 < v3 then (zM_leastFrom_L7 n v1 v2 x7 (v4 + 1) w) else (zM_leastFrom_L7 n v1 v2 v3 (v4 + 1) w)) else (zM_leastFrom_L7 n v1 v2 v3 (v4 + 1) w))) else (some v3))
set_option maxRecDepth 20000 in
theorem ezM_leastFrom_L7 {d : Nat} (hd : 2 ≤ d) (R : Int32) : ∀ (n : Nat) (v1 : Int32) (v2 : Int32) (v3 : Int32) (v4 : Int32) (w : zHM), zM_leastFrom_L7 n v1 v2 v3 v4 w = some R → am_Rn 83 Xs am_P d 243 (7, [(0, .ref 83), (1, .int v1), (2, .int v2), (3, .int v3), (4, .int v4)], []) (am_sh, hx, w.1, w.2) (some (.int R), (am_sh, hx, w.1, w.2))
  | 0, _, _, _, _, _, hp => by cases hp
  | n + 1, v1, v2, v3, v4, w, hp => by
    obtain ⟨d, rfl⟩ : ∃ k, d = k + 1 := ⟨d - 1, by omega⟩
    unfold zM_leastFrom_L7 at hp
    refine am_Rn.run am_h243 6 (F' := (16, [(0, .ref 83), (1, .int v1), (2, .int v2), (3, .int v3), (4, .int v4)], [.int (v1 + 1), .ref 93, .int v4])) (S' := (am_sh, hx, w.1, w.2)) rfl ?_
    obtain ⟨hn1, hp⟩ := am_ix_e hp
    refine am_Rn.stepG am_h243 (c := (v1 + 1) < 0 ∨ 24 ≤ (v1 + 1).toNatClampNeg) (F' := (17, [(0, .ref 83), (1, .int v1), (2, .int v2), (3, .int v3), (4, .int v4)], [.int (w.1 93 ((v1 + 1).toNatClampNeg)), .int v4])) (S' := (am_sh, hx, w.1, w.2)) rfl hn1 ?_
    refine am_Rn.ite am_h243 (c := v4 < (w.1 93 ((v1 + 1).toNatClampNeg))) (t := 20) (f := 76) (lv := [(0, .ref 83), (1, .int v1), (2, .int v2), (3, .int v3), (4, .int v4)]) (st := []) (S' := (am_sh, hx, w.1, w.2)) rfl hp (fun hc2 hp => ?_) (fun hc2 hp => ?_)
    · refine am_Rn.run am_h243 9 (F' := (34, [(0, .ref 83), (1, .int v1), (2, .int v2), (3, .int v3), (4, .int v4)], [.int ((720 * (v1 + 1)) + v4), .ref 94])) (S' := (am_sh, hx, w.1, w.2)) rfl ?_
      obtain ⟨hn3, hp⟩ := am_ix_e hp
      refine am_Rn.stepG am_h243 (c := ((720 * (v1 + 1)) + v4) < 0 ∨ 17280 ≤ ((720 * (v1 + 1)) + v4).toNatClampNeg) (F' := (35, [(0, .ref 83), (1, .int v1), (2, .int v2), (3, .int v3), (4, .int v4)], [.int (w.1 94 (((720 * (v1 + 1)) + v4).toNatClampNeg))])) (S' := (am_sh, hx, w.1, w.2)) rfl hn3 ?_
      obtain ⟨x4, h_x4, hp⟩ := am_b_e hp
      refine am_Rn.run am_h243 3 (F' := (40, [(5, .int x4), (0, .ref 83), (1, .int v1), (2, .int v2), (3, .int v3), (4, .int v4)], [.int v3, .int x4])) (S' := (am_sh, hx, w.1, w.2)) (by subst h_x4; rfl) ?_
      refine am_Rn.ite am_h243 (c := x4 < v3) (t := 46) (f := 43) (lv := [(5, .int x4), (0, .ref 83), (1, .int v1), (2, .int v2), (3, .int v3), (4, .int v4)]) (st := []) (S' := (am_sh, hx, w.1, w.2)) rfl hp (fun hc5 hp => ?_) (fun hc5 hp => ?_)
      · refine am_Rn.run am_h243 6 (F' := (53, [(5, .int x4), (0, .ref 83), (1, .int v1), (2, .int v2), (3, .int v3), (4, .int v4)], [.int v4, .int v2, .int (v1 + 1), .ref 83])) (S' := (am_sh, hx, w.1, w.2)) rfl ?_
        obtain ⟨r6, h_r6, hp⟩ := am_bind hp
        refine am_Rn.call am_h243 (mj := 241) (As := [.ref 83, .int (v1 + 1), .int v2, .int v4]) (F' := (56, [(5, .int x4), (0, .ref 83), (1, .int v1), (2, .int v2), (3, .int v3), (4, .int v4)], [])) (M' := am_m241) (r := some (.int r6)) (S1 := (am_sh, hx, w.1, w.2)) rfl am_h241 rfl (ezM_swapped (by omega) (v1 + 1) v2 v4 w _ h_r6) ?_
        obtain ⟨x7, h_x7, hp⟩ := am_b_e hp
        refine am_Rn.run am_h243 5 (F' := (64, [(6, .int x7), (5, .int x4), (0, .ref 83), (1, .int v1), (2, .int v2), (3, .int v3), (4, .int v4)], [.int v3, .int x7])) (S' := (am_sh, hx, w.1, w.2)) (by subst h_x7; rfl) ?_
        refine am_Rn.ite am_h243 (c := x7 < v3) (t := 67) (f := 70) (lv := [(6, .int x7), (5, .int x4), (0, .ref 83), (1, .int v1), (2, .int v2), (3, .int v3), (4, .int v4)]) (st := []) (S' := (am_sh, hx, w.1, w.2)) rfl hp (fun hc8 hp => ?_) (fun hc8 hp => ?_)
        · refine am_Rn.run am_h243 4 (F' := (7, [(4, .int (v4 + 1)), (3, .int x7), (6, .int x7), (5, .int x4), (0, .ref 83), (1, .int v1), (2, .int v2)], [])) (S' := (am_sh, hx, w.1, w.2)) rfl ?_
          refine am_Rn.sub [4, 5, 6, 1, 0] rfl rfl ?_
          exact ezM_leastFrom_L7 hd R n v1 v2 x7 (v4 + 1) w hp
        · refine am_Rn.run am_h243 2 (F' := (7, [(4, .int (v4 + 1)), (6, .int x7), (5, .int x4), (0, .ref 83), (1, .int v1), (2, .int v2), (3, .int v3)], [])) (S' := (am_sh, hx, w.1, w.2)) rfl ?_
          refine am_Rn.sub [3, 4, 5, 6, 0] rfl rfl ?_
          exact ezM_leastFrom_L7 hd R n v1 v2 v3 (v4 + 1) w hp
      · refine am_Rn.run am_h243 3 (F' := (7, [(4, .int (v4 + 1)), (5, .int x4), (0, .ref 83), (1, .int v1), (2, .int v2), (3, .int v3)], [])) (S' := (am_sh, hx, w.1, w.2)) rfl ?_
        refine am_Rn.sub [2, 3, 4, 5, 0] rfl rfl ?_
        exact ezM_leastFrom_L7 hd R n v1 v2 v3 (v4 + 1) w hp
    · refine am_Rn.run am_h243 1 (F' := (77, [(0, .ref 83), (1, .int v1), (2, .int v2), (3, .int v3), (4, .int v4)], [.int v3])) (S' := (am_sh, hx, w.1, w.2)) rfl ?_
      cases hp
      exact am_Rn.ret am_h243 rfl
def zM_leastFrom (v1 : Int32) (v2 : Int32) (w : zHM) : Option (Int32) := zM_leastFrom_L7 am_N v1 v2 1000000 0 w
set_option maxRecDepth 20000 in
theorem ezM_leastFrom {d : Nat} (hd : 2 ≤ d) (v1 : Int32) (v2 : Int32) (w : zHM) (R : Int32) (hp : zM_leastFrom v1 v2 w = some R) : am_Ev 83 Xs am_P d 243 [.ref 83, .int v1, .int v2] (am_sh, hx, w.1, w.2) (some (.int R), (am_sh, hx, w.1, w.2)) := by
  obtain ⟨d, rfl⟩ : ∃ k, d = k + 1 := ⟨d - 1, by omega⟩
  unfold zM_leastFrom at hp
  show am_Rn 83 Xs am_P _ 243 (0, [(0, .ref 83), (1, .int v1), (2, .int v2)], []) _ _
  refine am_Rn.run am_h243 4 (F' := (7, [(4, .int 0), (3, .int 1000000), (0, .ref 83), (1, .int v1), (2, .int v2)], [])) (S' := (am_sh, hx, w.1, w.2)) rfl ?_
  refine am_Rn.sub [2, 3, 4, 1, 0] rfl rfl ?_
  exact ezM_leastFrom_L7 hd R am_N v1 v2 1000000 0 w hp
/-- SixHandsModel.reckon(III)V [83] -/
def zM_reckon_L58 (k21 : Int32 → Int32 → zHM → Option (zHM)) : Nat → Int32 → Int32 → Int32 → zHM → Option (zHM)
  | 0, _, _, _, _ => none
  | n + 1, v1, v4, v5, w => am_ix 24 v4 (if v5 < (w.1 93 (v4.toNatClampNeg)) then (if (v4 + 1) = (w.1 84 6) then (am_ix 17280 ((720 * v4) + v5) (am_b ((va_up w.1 94 (upd (w.1 94) (((720 * v4) + v5).toNatClampNeg) 0), w.2)) fun w12 => zM_reckon_L58 k21 n v1 v4 (v5 + 1) w12)) else ((zM_leastFrom v4 v5 w).bind fun r13 => am_ix 17280 ((720 * v4) + v5) (am_b ((va_up w.1 94 (upd (w.1 94) (((720 * v4) + v5).toNatClampNeg) r13), w.2)) fun w15 => zM_reckon_L58 k21 n v1 v4 (v5 + 1) w15))) else (am_b (v4 + (-1)) fun x16 => k21 v1 x16 w))
set_option maxRecDepth 20000 in
theorem ezM_reckon_L58 {d : Nat} (hd : 7 ≤ d) (R : zHM) (k21 : Int32 → Int32 → zHM → Option (zHM)) (hk21 : ∀ (v1 : Int32) (v4 : Int32) (w : zHM), k21 v1 v4 w = some R → am_Rn 83 Xs am_P d 242 (21, [(0, .ref 83), (1, .int v1), (4, .int v4)], []) (am_sh, hx, w.1, w.2) (none, (am_sh, hx, R.1, R.2))) : ∀ (n : Nat) (v1 : Int32) (v4 : Int32) (v5 : Int32) (w : zHM), zM_reckon_L58 k21 n v1 v4 v5 w = some R → am_Rn 83 Xs am_P d 242 (58, [(0, .ref 83), (1, .int v1), (4, .int v4), (5, .int v5)], []) (am_sh, hx, w.1, w.2) (none, (am_sh, hx, R.1, R.2))
  | 0, _, _, _, _, hp => by cases hp
  | n + 1, v1, v4, v5, w, hp => by
    obtain ⟨d, rfl⟩ : ∃ k, d = k + 1 := ⟨d - 1, by omega⟩
    unfold zM_reckon_L58 at hp
    refine am_Rn.run am_h242 4 (F' := (66, [(0, .ref 83), (1, .int v1), (4, .int v4), (5, .int v5)], [.int v4, .ref 93, .int v5])) (S' := (am_sh, hx, w.1, w.2)) rfl ?_
    obtain ⟨hn8, hp⟩ := am_ix_e hp
    refine am_Rn.stepG am_h242 (c := v4 < 0 ∨ 24 ≤ v4.toNatClampNeg) (F' := (67, [(0, .ref 83), (1, .int v1), (4, .int v4), (5, .int v5)], [.int (w.1 93 (v4.toNatClampNeg)), .int v5])) (S' := (am_sh, hx, w.1, w.2)) rfl hn8 ?_
    refine am_Rn.ite am_h242 (c := v5 < (w.1 93 (v4.toNatClampNeg))) (t := 70) (f := 116) (lv := [(0, .ref 83), (1, .int v1), (4, .int v4), (5, .int v5)]) (st := []) (S' := (am_sh, hx, w.1, w.2)) rfl hp (fun hc9 hp => ?_) (fun hc9 hp => ?_)
    · refine am_Rn.run am_h242 14 (F' := (94, [(0, .ref 83), (1, .int v1), (4, .int v4), (5, .int v5)], [.int (w.1 84 6), .int (v4 + 1), .int ((720 * v4) + v5), .ref 94])) (S' := (am_sh, hx, w.1, w.2)) rfl ?_
      refine am_Rn.ite am_h242 (c := (v4 + 1) = (w.1 84 6)) (t := 97) (f := 101) (lv := [(0, .ref 83), (1, .int v1), (4, .int v4), (5, .int v5)]) (st := [.int ((720 * v4) + v5), .ref 94]) (S' := (am_sh, hx, w.1, w.2)) rfl hp (fun hc10 hp => ?_) (fun hc10 hp => ?_)
      · refine am_Rn.run am_h242 2 (F' := (109, [(0, .ref 83), (1, .int v1), (4, .int v4), (5, .int v5)], [.int 0, .int ((720 * v4) + v5), .ref 94])) (S' := (am_sh, hx, w.1, w.2)) rfl ?_
        obtain ⟨hn11, hp⟩ := am_ix_e hp
        obtain ⟨w12, h_w12, hp⟩ := am_b_e hp
        refine am_Rn.stepG am_h242 (c := ((720 * v4) + v5) < 0 ∨ 17280 ≤ ((720 * v4) + v5).toNatClampNeg) (F' := (110, [(0, .ref 83), (1, .int v1), (4, .int v4), (5, .int v5)], [])) (S' := (am_sh, hx, w12.1, w12.2)) (by subst h_w12; rfl) hn11 ?_
        refine am_Rn.run am_h242 2 (F' := (58, [(5, .int (v5 + 1)), (0, .ref 83), (1, .int v1), (4, .int v4)], [])) (S' := (am_sh, hx, w12.1, w12.2)) rfl ?_
        refine am_Rn.sub [1, 2, 3, 0] rfl rfl ?_
        exact ezM_reckon_L58 hd R k21 hk21 n v1 v4 (v5 + 1) w12 hp
      · refine am_Rn.run am_h242 3 (F' := (106, [(0, .ref 83), (1, .int v1), (4, .int v4), (5, .int v5)], [.int v5, .int v4, .ref 83, .int ((720 * v4) + v5), .ref 94])) (S' := (am_sh, hx, w.1, w.2)) rfl ?_
        obtain ⟨r13, h_r13, hp⟩ := am_bind hp
        refine am_Rn.call am_h242 (mj := 243) (As := [.ref 83, .int v4, .int v5]) (F' := (109, [(0, .ref 83), (1, .int v1), (4, .int v4), (5, .int v5)], [.int ((720 * v4) + v5), .ref 94])) (M' := am_m243) (r := some (.int r13)) (S1 := (am_sh, hx, w.1, w.2)) rfl am_h243 rfl (ezM_leastFrom (by omega) v4 v5 w _ h_r13) ?_
        obtain ⟨hn14, hp⟩ := am_ix_e hp
        obtain ⟨w15, h_w15, hp⟩ := am_b_e hp
        refine am_Rn.stepG am_h242 (c := ((720 * v4) + v5) < 0 ∨ 17280 ≤ ((720 * v4) + v5).toNatClampNeg) (F' := (110, [(0, .ref 83), (1, .int v1), (4, .int v4), (5, .int v5)], [])) (S' := (am_sh, hx, w15.1, w15.2)) (by subst h_w15; rfl) hn14 ?_
        refine am_Rn.run am_h242 2 (F' := (58, [(5, .int (v5 + 1)), (0, .ref 83), (1, .int v1), (4, .int v4)], [])) (S' := (am_sh, hx, w15.1, w15.2)) rfl ?_
        refine am_Rn.sub [1, 2, 3, 0] rfl rfl ?_
        exact ezM_reckon_L58 hd R k21 hk21 n v1 v4 (v5 + 1) w15 hp
    · obtain ⟨x16, h_x16, hp⟩ := am_b_e hp
      refine am_Rn.run am_h242 2 (F' := (21, [(4, .int x16), (0, .ref 83), (1, .int v1), (5, .int v5)], [])) (S' := (am_sh, hx, w.1, w.2)) (by subst h_x16; rfl) ?_
      refine am_Rn.sub [1, 2, 0] rfl rfl ?_
      exact hk21 v1 x16 w hp
def zM_reckon_L21 : Nat → Int32 → Int32 → zHM → Option (zHM)
  | 0, _, _, _ => none
  | n + 1, v1, v4, w => if v4 < v1 then (some w) else ((zM_findWays v4 w).bind fun r5 => if (v4 + 1) < (r5.1 84 6) then ((zM_findPasses (v4 + 1) r5).bind fun r7 => zM_reckon_L58 (fun v1 v4 w => zM_reckon_L21 n v1 v4 w) am_N v1 v4 0 r7) else (zM_reckon_L58 (fun v1 v4 w => zM_reckon_L21 n v1 v4 w) am_N v1 v4 0 r5))
set_option maxRecDepth 20000 in
theorem ezM_reckon_L21 {d : Nat} (hd : 7 ≤ d) (R : zHM) : ∀ (n : Nat) (v1 : Int32) (v4 : Int32) (w : zHM), zM_reckon_L21 n v1 v4 w = some R → am_Rn 83 Xs am_P d 242 (21, [(0, .ref 83), (1, .int v1), (4, .int v4)], []) (am_sh, hx, w.1, w.2) (none, (am_sh, hx, R.1, R.2))
  | 0, _, _, _, hp => by cases hp
  | n + 1, v1, v4, w, hp => by
    obtain ⟨d, rfl⟩ : ∃ k, d = k + 1 := ⟨d - 1, by omega⟩
    unfold zM_reckon_L21 at hp
    refine am_Rn.run am_h242 2 (F' := (24, [(0, .ref 83), (1, .int v1), (4, .int v4)], [.int v1, .int v4])) (S' := (am_sh, hx, w.1, w.2)) rfl ?_
    refine am_Rn.ite am_h242 (c := v4 < v1) (t := 122) (f := 27) (lv := [(0, .ref 83), (1, .int v1), (4, .int v4)]) (st := []) (S' := (am_sh, hx, w.1, w.2)) rfl hp (fun hc4 hp => ?_) (fun hc4 hp => ?_)
    · cases hp
      exact am_Rn.ret am_h242 rfl
    · refine am_Rn.run am_h242 2 (F' := (30, [(0, .ref 83), (1, .int v1), (4, .int v4)], [.int v4, .ref 83])) (S' := (am_sh, hx, w.1, w.2)) rfl ?_
      obtain ⟨r5, h_r5, hp⟩ := am_bind hp
      refine am_Rn.call am_h242 (mj := 235) (As := [.ref 83, .int v4]) (F' := (33, [(0, .ref 83), (1, .int v1), (4, .int v4)], [])) (M' := am_m235) (r := none) (S1 := (am_sh, hx, r5.1, r5.2)) rfl am_h235 rfl (ezM_findWays (by omega) v4 w _ h_r5) ?_
      refine am_Rn.run am_h242 7 (F' := (44, [(0, .ref 83), (1, .int v1), (4, .int v4)], [.int (r5.1 84 6), .int (v4 + 1)])) (S' := (am_sh, hx, r5.1, r5.2)) rfl ?_
      refine am_Rn.ite am_h242 (c := (v4 + 1) < (r5.1 84 6)) (t := 47) (f := 55) (lv := [(0, .ref 83), (1, .int v1), (4, .int v4)]) (st := []) (S' := (am_sh, hx, r5.1, r5.2)) rfl hp (fun hc6 hp => ?_) (fun hc6 hp => ?_)
      · refine am_Rn.run am_h242 4 (F' := (52, [(0, .ref 83), (1, .int v1), (4, .int v4)], [.int (v4 + 1), .ref 83])) (S' := (am_sh, hx, r5.1, r5.2)) rfl ?_
        obtain ⟨r7, h_r7, hp⟩ := am_bind hp
        refine am_Rn.call am_h242 (mj := 239) (As := [.ref 83, .int (v4 + 1)]) (F' := (55, [(0, .ref 83), (1, .int v1), (4, .int v4)], [])) (M' := am_m239) (r := none) (S1 := (am_sh, hx, r7.1, r7.2)) rfl am_h239 rfl (ezM_findPasses (by omega) (v4 + 1) r5 _ h_r7) ?_
        refine am_Rn.run am_h242 2 (F' := (58, [(5, .int 0), (0, .ref 83), (1, .int v1), (4, .int v4)], [])) (S' := (am_sh, hx, r7.1, r7.2)) rfl ?_
        refine am_Rn.sub [1, 2, 3, 0] rfl rfl ?_
        exact ezM_reckon_L58 hd R (fun v1 v4 w => zM_reckon_L21 n v1 v4 w) (fun v1 v4 w hp => ezM_reckon_L21 hd R n v1 v4 w hp) am_N v1 v4 0 r7 hp
      · refine am_Rn.run am_h242 2 (F' := (58, [(5, .int 0), (0, .ref 83), (1, .int v1), (4, .int v4)], [])) (S' := (am_sh, hx, r5.1, r5.2)) rfl ?_
        refine am_Rn.sub [1, 2, 3, 0] rfl rfl ?_
        exact ezM_reckon_L58 hd R (fun v1 v4 w => zM_reckon_L21 n v1 v4 w) (fun v1 v4 w hp => ezM_reckon_L21 hd R n v1 v4 w hp) am_N v1 v4 0 r5 hp
def zM_reckon (v1 : Int32) (v2 : Int32) (v3 : Int32) (w : zHM) : Option (zHM) := am_b ((va_up w.1 83 (upd (w.1 83) 30 v2), w.2)) fun w1 => am_b ((va_up w1.1 83 (upd (w1.1 83) 29 v3), w1.2)) fun w2 => am_b ((w2.1 84 6) - 1) fun x3 => zM_reckon_L21 am_N v1 x3 w2
set_option maxRecDepth 20000 in
theorem ezM_reckon {d : Nat} (hd : 7 ≤ d) (v1 : Int32) (v2 : Int32) (v3 : Int32) (w : zHM) (R : zHM) (hp : zM_reckon v1 v2 v3 w = some R) : am_Ev 83 Xs am_P d 242 [.ref 83, .int v1, .int v2, .int v3] (am_sh, hx, w.1, w.2) (none, (am_sh, hx, R.1, R.2)) := by
  obtain ⟨d, rfl⟩ : ∃ k, d = k + 1 := ⟨d - 1, by omega⟩
  unfold zM_reckon at hp
  show am_Rn 83 Xs am_P _ 242 (0, [(0, .ref 83), (1, .int v1), (2, .int v2), (3, .int v3)], []) _ _
  obtain ⟨w1, h_w1, hp⟩ := am_b_e hp
  obtain ⟨w2, h_w2, hp⟩ := am_b_e hp
  obtain ⟨x3, h_x3, hp⟩ := am_b_e hp
  refine am_Rn.run am_h242 13 (F' := (21, [(4, .int x3), (0, .ref 83), (1, .int v1), (2, .int v2), (3, .int v3)], [])) (S' := (am_sh, hx, w2.1, w2.2)) (by subst h_w1; subst h_w2; subst h_x3; rfl) ?_
  refine am_Rn.sub [1, 2, 0] rfl rfl ?_
  exact ezM_reckon_L21 hd R am_N v1 x3 w2 hp
/-- SixHandsModel.leastOf()I [83] -/
def zM_leastOf_L18 : Nat → Int32 → Int32 → zHM → Option (Int32)
  | 0, _, _, _ => none
  | n + 1, v1, v2, w => if v2 < (w.1 93 0) then (am_ix 17280 v2 (if (w.1 94 (v2.toNatClampNeg)) < v1 then (am_ix 17280 v2 (am_b (w.1 94 (v2.toNatClampNeg)) fun x6 => zM_leastOf_L18 n x6 (v2 + 1) w)) else (zM_leastOf_L18 n v1 (v2 + 1) w))) else (some v1)
set_option maxRecDepth 20000 in
theorem ezM_leastOf_L18 {d : Nat} (hd : 0 ≤ d) (R : Int32) : ∀ (n : Nat) (v1 : Int32) (v2 : Int32) (w : zHM), zM_leastOf_L18 n v1 v2 w = some R → am_Rn 83 Xs am_P d 244 (18, [(0, .ref 83), (1, .int v1), (2, .int v2)], []) (am_sh, hx, w.1, w.2) (some (.int R), (am_sh, hx, w.1, w.2))
  | 0, _, _, _, hp => by cases hp
  | n + 1, v1, v2, w, hp => by
    unfold zM_leastOf_L18 at hp
    refine am_Rn.run am_h244 5 (F' := (25, [(0, .ref 83), (1, .int v1), (2, .int v2)], [.int (w.1 93 0), .int v2])) (S' := (am_sh, hx, w.1, w.2)) rfl ?_
    refine am_Rn.ite am_h244 (c := v2 < (w.1 93 0)) (t := 28) (f := 51) (lv := [(0, .ref 83), (1, .int v1), (2, .int v2)]) (st := []) (S' := (am_sh, hx, w.1, w.2)) rfl hp (fun hc2 hp => ?_) (fun hc2 hp => ?_)
    · refine am_Rn.run am_h244 3 (F' := (33, [(0, .ref 83), (1, .int v1), (2, .int v2)], [.int v2, .ref 94])) (S' := (am_sh, hx, w.1, w.2)) rfl ?_
      obtain ⟨hn3, hp⟩ := am_ix_e hp
      refine am_Rn.stepG am_h244 (c := v2 < 0 ∨ 17280 ≤ v2.toNatClampNeg) (F' := (34, [(0, .ref 83), (1, .int v1), (2, .int v2)], [.int (w.1 94 (v2.toNatClampNeg))])) (S' := (am_sh, hx, w.1, w.2)) rfl hn3 ?_
      refine am_Rn.run am_h244 1 (F' := (35, [(0, .ref 83), (1, .int v1), (2, .int v2)], [.int v1, .int (w.1 94 (v2.toNatClampNeg))])) (S' := (am_sh, hx, w.1, w.2)) rfl ?_
      refine am_Rn.ite am_h244 (c := (w.1 94 (v2.toNatClampNeg)) < v1) (t := 38) (f := 45) (lv := [(0, .ref 83), (1, .int v1), (2, .int v2)]) (st := []) (S' := (am_sh, hx, w.1, w.2)) rfl hp (fun hc4 hp => ?_) (fun hc4 hp => ?_)
      · refine am_Rn.run am_h244 3 (F' := (43, [(0, .ref 83), (1, .int v1), (2, .int v2)], [.int v2, .ref 94])) (S' := (am_sh, hx, w.1, w.2)) rfl ?_
        obtain ⟨hn5, hp⟩ := am_ix_e hp
        refine am_Rn.stepG am_h244 (c := v2 < 0 ∨ 17280 ≤ v2.toNatClampNeg) (F' := (44, [(0, .ref 83), (1, .int v1), (2, .int v2)], [.int (w.1 94 (v2.toNatClampNeg))])) (S' := (am_sh, hx, w.1, w.2)) rfl hn5 ?_
        obtain ⟨x6, h_x6, hp⟩ := am_b_e hp
        refine am_Rn.run am_h244 3 (F' := (18, [(2, .int (v2 + 1)), (1, .int x6), (0, .ref 83)], [])) (S' := (am_sh, hx, w.1, w.2)) (by subst h_x6; rfl) ?_
        refine am_Rn.sub [2, 1, 0] rfl rfl ?_
        exact ezM_leastOf_L18 hd R n x6 (v2 + 1) w hp
      · refine am_Rn.run am_h244 2 (F' := (18, [(2, .int (v2 + 1)), (0, .ref 83), (1, .int v1)], [])) (S' := (am_sh, hx, w.1, w.2)) rfl ?_
        refine am_Rn.sub [1, 2, 0] rfl rfl ?_
        exact ezM_leastOf_L18 hd R n v1 (v2 + 1) w hp
    · refine am_Rn.run am_h244 1 (F' := (52, [(0, .ref 83), (1, .int v1), (2, .int v2)], [.int v1])) (S' := (am_sh, hx, w.1, w.2)) rfl ?_
      cases hp
      exact am_Rn.ret am_h244 rfl
def zM_leastOf (w : zHM) : Option (Int32) := if (w.1 84 6) = 0 then (some 0) else (zM_leastOf_L18 am_N 1000000 0 w)
set_option maxRecDepth 20000 in
theorem ezM_leastOf {d : Nat} (hd : 0 ≤ d) (w : zHM) (R : Int32) (hp : zM_leastOf w = some R) : am_Ev 83 Xs am_P d 244 [.ref 83] (am_sh, hx, w.1, w.2) (some (.int R), (am_sh, hx, w.1, w.2)) := by
  unfold zM_leastOf at hp
  show am_Rn 83 Xs am_P _ 244 (0, [(0, .ref 83)], []) _ _
  refine am_Rn.run am_h244 4 (F' := (7, [(0, .ref 83)], [.int (w.1 84 6)])) (S' := (am_sh, hx, w.1, w.2)) rfl ?_
  refine am_Rn.ite am_h244 (c := (w.1 84 6) = 0) (t := 10) (f := 12) (lv := [(0, .ref 83)]) (st := []) (S' := (am_sh, hx, w.1, w.2)) rfl hp (fun hc1 hp => ?_) (fun hc1 hp => ?_)
  · refine am_Rn.run am_h244 1 (F' := (11, [(0, .ref 83)], [.int 0])) (S' := (am_sh, hx, w.1, w.2)) rfl ?_
    cases hp
    exact am_Rn.ret am_h244 rfl
  · refine am_Rn.run am_h244 4 (F' := (18, [(2, .int 0), (1, .int 1000000), (0, .ref 83)], [])) (S' := (am_sh, hx, w.1, w.2)) rfl ?_
    refine am_Rn.sub [2, 1, 0] rfl rfl ?_
    exact ezM_leastOf_L18 hd R am_N 1000000 0 w hp
/-- SixHandsModel.fewest(I)I [83] -/
def zM_fewest (v1 : Int32) (w : zHM) : Option (Int32 × zHM) := am_b (zM_isSet v1 w) fun r1 => if r1 = 0 then (some (((-1), w))) else ((zM_reckon 0 v1 0 w).bind fun r3 => (zM_leastOf r3).bind fun r4 => if r4 < 1000000 then ((zM_leastOf r3).bind fun r6 => some ((r6, r3))) else (some (((-1), r3))))
set_option maxRecDepth 20000 in
theorem ezM_fewest {d : Nat} (hd : 8 ≤ d) (v1 : Int32) (w : zHM) (R : Int32 × zHM) (hp : zM_fewest v1 w = some R) : am_Ev 83 Xs am_P d 246 [.ref 83, .int v1] (am_sh, hx, w.1, w.2) (some (.int R.1), (am_sh, hx, R.2.1, R.2.2)) := by
  obtain ⟨d, rfl⟩ : ∃ k, d = k + 1 := ⟨d - 1, by omega⟩
  unfold zM_fewest at hp
  show am_Rn 83 Xs am_P _ 246 (0, [(0, .ref 83), (1, .int v1)], []) _ _
  refine am_Rn.run am_h246 2 (F' := (2, [(0, .ref 83), (1, .int v1)], [.int v1, .ref 83])) (S' := (am_sh, hx, w.1, w.2)) rfl ?_
  obtain ⟨r1, h_r1, hp⟩ := am_b_e hp
  refine am_Rn.call am_h246 (mj := 245) (As := [.ref 83, .int v1]) (F' := (5, [(0, .ref 83), (1, .int v1)], [])) (M' := am_m245) (r := some (.int r1)) (S1 := (am_sh, hx, w.1, w.2)) rfl am_h245 rfl (by subst h_r1; exact (ezM_isSet (by omega) v1 w)) ?_
  refine am_Rn.ite am_h246 (c := r1 = 0) (t := 8) (f := 10) (lv := [(0, .ref 83), (1, .int v1)]) (st := []) (S' := (am_sh, hx, w.1, w.2)) rfl hp (fun hc2 hp => ?_) (fun hc2 hp => ?_)
  · refine am_Rn.run am_h246 1 (F' := (9, [(0, .ref 83), (1, .int v1)], [.int (-1)])) (S' := (am_sh, hx, w.1, w.2)) rfl ?_
    cases hp
    exact am_Rn.ret am_h246 rfl
  · refine am_Rn.run am_h246 4 (F' := (14, [(0, .ref 83), (1, .int v1)], [.int 0, .int v1, .int 0, .ref 83])) (S' := (am_sh, hx, w.1, w.2)) rfl ?_
    obtain ⟨r3, h_r3, hp⟩ := am_bind hp
    refine am_Rn.call am_h246 (mj := 242) (As := [.ref 83, .int 0, .int v1, .int 0]) (F' := (17, [(0, .ref 83), (1, .int v1)], [])) (M' := am_m242) (r := none) (S1 := (am_sh, hx, r3.1, r3.2)) rfl am_h242 rfl (ezM_reckon (by omega) 0 v1 0 w _ h_r3) ?_
    refine am_Rn.run am_h246 1 (F' := (18, [(0, .ref 83), (1, .int v1)], [.ref 83])) (S' := (am_sh, hx, r3.1, r3.2)) rfl ?_
    obtain ⟨r4, h_r4, hp⟩ := am_bind hp
    refine am_Rn.call am_h246 (mj := 244) (As := [.ref 83]) (F' := (21, [(0, .ref 83), (1, .int v1)], [])) (M' := am_m244) (r := some (.int r4)) (S1 := (am_sh, hx, r3.1, r3.2)) rfl am_h244 rfl (ezM_leastOf (by omega) r3 _ h_r4) ?_
    refine am_Rn.run am_h246 1 (F' := (24, [(0, .ref 83), (1, .int v1)], [.int 1000000, .int r4])) (S' := (am_sh, hx, r3.1, r3.2)) rfl ?_
    refine am_Rn.ite am_h246 (c := r4 < 1000000) (t := 31) (f := 27) (lv := [(0, .ref 83), (1, .int v1)]) (st := []) (S' := (am_sh, hx, r3.1, r3.2)) rfl hp (fun hc5 hp => ?_) (fun hc5 hp => ?_)
    · refine am_Rn.run am_h246 1 (F' := (32, [(0, .ref 83), (1, .int v1)], [.ref 83])) (S' := (am_sh, hx, r3.1, r3.2)) rfl ?_
      obtain ⟨r6, h_r6, hp⟩ := am_bind hp
      refine am_Rn.call am_h246 (mj := 244) (As := [.ref 83]) (F' := (35, [(0, .ref 83), (1, .int v1)], [])) (M' := am_m244) (r := some (.int r6)) (S1 := (am_sh, hx, r3.1, r3.2)) rfl am_h244 rfl (ezM_leastOf (by omega) r3 _ h_r6) ?_
      cases hp
      exact am_Rn.ret am_h246 rfl
    · refine am_Rn.run am_h246 2 (F' := (35, [(0, .ref 83), (1, .int v1)], [.int (-1)])) (S' := (am_sh, hx, r3.1, r3.2)) rfl ?_
      cases hp
      exact am_Rn.ret am_h246 rfl
/-- SixHandsModel.goAlong()V [83] -/
def zM_goAlong_J69 (k7 : Int32 → Int32 → zHM → Option (zHM)) (k29 : Int32 → Int32 → Int32 → zHM → Option (zHM)) (v1 : Int32) (v2 : Int32) (v3 : Int32) (s0 : Int32) (w : zHM) : Option (zHM) := am_ix 17280 ((720 * v2) + v3) (if (s0 + (w.1 94 (((720 * v2) + v3).toNatClampNeg))) = v1 then (am_ix 17280 ((720 * v2) + v3) (am_b (w.1 94 (((720 * v2) + v3).toNatClampNeg)) fun x11 => am_ix 24 v2 (am_b ((va_up w.1 98 (upd (w.1 98) (v2.toNatClampNeg) v3), w.2)) fun w13 => k7 x11 (v2 + 1) w13))) else (k29 v1 v2 (v3 + 1) w))
set_option maxRecDepth 20000 in
theorem ezM_goAlong_J69 {d : Nat} (hd : 6 ≤ d) (R : zHM) (k7 : Int32 → Int32 → zHM → Option (zHM)) (k29 : Int32 → Int32 → Int32 → zHM → Option (zHM)) (hk7 : ∀ (v1 : Int32) (v2 : Int32) (w : zHM), k7 v1 v2 w = some R → am_Rn 83 Xs am_P d 247 (7, [(0, .ref 83), (1, .int v1), (2, .int v2)], []) (am_sh, hx, w.1, w.2) (none, (am_sh, hx, R.1, R.2))) (hk29 : ∀ (v1 : Int32) (v2 : Int32) (v3 : Int32) (w : zHM), k29 v1 v2 v3 w = some R → am_Rn 83 Xs am_P d 247 (29, [(0, .ref 83), (1, .int v1), (2, .int v2), (3, .int v3)], []) (am_sh, hx, w.1, w.2) (none, (am_sh, hx, R.1, R.2))) (v1 : Int32) (v2 : Int32) (v3 : Int32) (s0 : Int32) (w : zHM) (hp : zM_goAlong_J69 k7 k29 v1 v2 v3 s0 w = some R) : am_Rn 83 Xs am_P d 247 (69, [(0, .ref 83), (1, .int v1), (2, .int v2), (3, .int v3)], [.int s0]) (am_sh, hx, w.1, w.2) (none, (am_sh, hx, R.1, R.2)) := by
  obtain ⟨d, rfl⟩ : ∃ k, d = k + 1 := ⟨d - 1, by omega⟩
  unfold zM_goAlong_J69 at hp
  refine am_Rn.run am_h247 7 (F' := (80, [(0, .ref 83), (1, .int v1), (2, .int v2), (3, .int v3)], [.int ((720 * v2) + v3), .ref 94, .int s0])) (S' := (am_sh, hx, w.1, w.2)) rfl ?_
  obtain ⟨hn8, hp⟩ := am_ix_e hp
  refine am_Rn.stepG am_h247 (c := ((720 * v2) + v3) < 0 ∨ 17280 ≤ ((720 * v2) + v3).toNatClampNeg) (F' := (81, [(0, .ref 83), (1, .int v1), (2, .int v2), (3, .int v3)], [.int (w.1 94 (((720 * v2) + v3).toNatClampNeg)), .int s0])) (S' := (am_sh, hx, w.1, w.2)) rfl hn8 ?_
  refine am_Rn.run am_h247 2 (F' := (83, [(0, .ref 83), (1, .int v1), (2, .int v2), (3, .int v3)], [.int v1, .int (s0 + (w.1 94 (((720 * v2) + v3).toNatClampNeg)))])) (S' := (am_sh, hx, w.1, w.2)) rfl ?_
  refine am_Rn.ite am_h247 (c := (s0 + (w.1 94 (((720 * v2) + v3).toNatClampNeg))) = v1) (t := 92) (f := 86) (lv := [(0, .ref 83), (1, .int v1), (2, .int v2), (3, .int v3)]) (st := []) (S' := (am_sh, hx, w.1, w.2)) rfl hp (fun hc9 hp => ?_) (fun hc9 hp => ?_)
  · refine am_Rn.run am_h247 7 (F' := (103, [(0, .ref 83), (1, .int v1), (2, .int v2), (3, .int v3)], [.int ((720 * v2) + v3), .ref 94])) (S' := (am_sh, hx, w.1, w.2)) rfl ?_
    obtain ⟨hn10, hp⟩ := am_ix_e hp
    refine am_Rn.stepG am_h247 (c := ((720 * v2) + v3) < 0 ∨ 17280 ≤ ((720 * v2) + v3).toNatClampNeg) (F' := (104, [(0, .ref 83), (1, .int v1), (2, .int v2), (3, .int v3)], [.int (w.1 94 (((720 * v2) + v3).toNatClampNeg))])) (S' := (am_sh, hx, w.1, w.2)) rfl hn10 ?_
    obtain ⟨x11, h_x11, hp⟩ := am_b_e hp
    refine am_Rn.run am_h247 5 (F' := (111, [(1, .int x11), (0, .ref 83), (2, .int v2), (3, .int v3)], [.int v3, .int v2, .ref 98])) (S' := (am_sh, hx, w.1, w.2)) (by subst h_x11; rfl) ?_
    obtain ⟨hn12, hp⟩ := am_ix_e hp
    obtain ⟨w13, h_w13, hp⟩ := am_b_e hp
    refine am_Rn.stepG am_h247 (c := v2 < 0 ∨ 24 ≤ v2.toNatClampNeg) (F' := (112, [(1, .int x11), (0, .ref 83), (2, .int v2), (3, .int v3)], [])) (S' := (am_sh, hx, w13.1, w13.2)) (by subst h_w13; rfl) hn12 ?_
    refine am_Rn.run am_h247 2 (F' := (7, [(2, .int (v2 + 1)), (1, .int x11), (0, .ref 83), (3, .int v3)], [])) (S' := (am_sh, hx, w13.1, w13.2)) rfl ?_
    refine am_Rn.sub [2, 1, 0] rfl rfl ?_
    exact hk7 x11 (v2 + 1) w13 hp
  · refine am_Rn.run am_h247 2 (F' := (29, [(3, .int (v3 + 1)), (0, .ref 83), (1, .int v1), (2, .int v2)], [])) (S' := (am_sh, hx, w.1, w.2)) rfl ?_
    refine am_Rn.sub [1, 2, 3, 0] rfl rfl ?_
    exact hk29 v1 v2 (v3 + 1) w hp
def zM_goAlong_L29 (k7 : Int32 → Int32 → zHM → Option (zHM)) : Nat → Int32 → Int32 → Int32 → zHM → Option (zHM)
  | 0, _, _, _, _ => none
  | n + 1, v1, v2, v3, w => am_ix 17280 ((720 * v2) + v3) (if (w.1 94 (((720 * v2) + v3).toNatClampNeg)) < 1000000 then (if v2 = 0 then (zM_goAlong_J69 k7 (fun v1 v2 v3 w => zM_goAlong_L29 k7 n v1 v2 v3 w) v1 v2 v3 0 w) else (am_ix 24 (v2 - 1) ((zM_swapped v2 (w.1 98 ((v2 - 1).toNatClampNeg)) v3 w).bind fun r15 => zM_goAlong_J69 k7 (fun v1 v2 v3 w => zM_goAlong_L29 k7 n v1 v2 v3 w) v1 v2 v3 r15 w))) else (zM_goAlong_L29 k7 n v1 v2 (v3 + 1) w))
set_option maxRecDepth 20000 in
theorem ezM_goAlong_L29 {d : Nat} (hd : 6 ≤ d) (R : zHM) (k7 : Int32 → Int32 → zHM → Option (zHM)) (hk7 : ∀ (v1 : Int32) (v2 : Int32) (w : zHM), k7 v1 v2 w = some R → am_Rn 83 Xs am_P d 247 (7, [(0, .ref 83), (1, .int v1), (2, .int v2)], []) (am_sh, hx, w.1, w.2) (none, (am_sh, hx, R.1, R.2))) : ∀ (n : Nat) (v1 : Int32) (v2 : Int32) (v3 : Int32) (w : zHM), zM_goAlong_L29 k7 n v1 v2 v3 w = some R → am_Rn 83 Xs am_P d 247 (29, [(0, .ref 83), (1, .int v1), (2, .int v2), (3, .int v3)], []) (am_sh, hx, w.1, w.2) (none, (am_sh, hx, R.1, R.2))
  | 0, _, _, _, _, hp => by cases hp
  | n + 1, v1, v2, v3, w, hp => by
    obtain ⟨d, rfl⟩ : ∃ k, d = k + 1 := ⟨d - 1, by omega⟩
    unfold zM_goAlong_L29 at hp
    refine am_Rn.run am_h247 7 (F' := (40, [(0, .ref 83), (1, .int v1), (2, .int v2), (3, .int v3)], [.int ((720 * v2) + v3), .ref 94])) (S' := (am_sh, hx, w.1, w.2)) rfl ?_
    obtain ⟨hn5, hp⟩ := am_ix_e hp
    refine am_Rn.stepG am_h247 (c := ((720 * v2) + v3) < 0 ∨ 17280 ≤ ((720 * v2) + v3).toNatClampNeg) (F' := (41, [(0, .ref 83), (1, .int v1), (2, .int v2), (3, .int v3)], [.int (w.1 94 (((720 * v2) + v3).toNatClampNeg))])) (S' := (am_sh, hx, w.1, w.2)) rfl hn5 ?_
    refine am_Rn.run am_h247 1 (F' := (44, [(0, .ref 83), (1, .int v1), (2, .int v2), (3, .int v3)], [.int 1000000, .int (w.1 94 (((720 * v2) + v3).toNatClampNeg))])) (S' := (am_sh, hx, w.1, w.2)) rfl ?_
    refine am_Rn.ite am_h247 (c := (w.1 94 (((720 * v2) + v3).toNatClampNeg)) < 1000000) (t := 47) (f := 86) (lv := [(0, .ref 83), (1, .int v1), (2, .int v2), (3, .int v3)]) (st := []) (S' := (am_sh, hx, w.1, w.2)) rfl hp (fun hc6 hp => ?_) (fun hc6 hp => ?_)
    · refine am_Rn.run am_h247 1 (F' := (48, [(0, .ref 83), (1, .int v1), (2, .int v2), (3, .int v3)], [.int v2])) (S' := (am_sh, hx, w.1, w.2)) rfl ?_
      refine am_Rn.ite am_h247 (c := v2 = 0) (t := 51) (f := 55) (lv := [(0, .ref 83), (1, .int v1), (2, .int v2), (3, .int v3)]) (st := []) (S' := (am_sh, hx, w.1, w.2)) rfl hp (fun hc7 hp => ?_) (fun hc7 hp => ?_)
      · refine am_Rn.run am_h247 2 (F' := (69, [(0, .ref 83), (1, .int v1), (2, .int v2), (3, .int v3)], [.int 0])) (S' := (am_sh, hx, w.1, w.2)) rfl ?_
        exact ezM_goAlong_J69 hd R k7 (fun v1 v2 v3 w => zM_goAlong_L29 k7 n v1 v2 v3 w) hk7 (fun v1 v2 v3 w hp => ezM_goAlong_L29 hd R k7 hk7 n v1 v2 v3 w hp) v1 v2 v3 0 w hp
      · refine am_Rn.run am_h247 7 (F' := (64, [(0, .ref 83), (1, .int v1), (2, .int v2), (3, .int v3)], [.int (v2 - 1), .ref 98, .int v2, .ref 83])) (S' := (am_sh, hx, w.1, w.2)) rfl ?_
        obtain ⟨hn14, hp⟩ := am_ix_e hp
        refine am_Rn.stepG am_h247 (c := (v2 - 1) < 0 ∨ 24 ≤ (v2 - 1).toNatClampNeg) (F' := (65, [(0, .ref 83), (1, .int v1), (2, .int v2), (3, .int v3)], [.int (w.1 98 ((v2 - 1).toNatClampNeg)), .int v2, .ref 83])) (S' := (am_sh, hx, w.1, w.2)) rfl hn14 ?_
        refine am_Rn.run am_h247 1 (F' := (66, [(0, .ref 83), (1, .int v1), (2, .int v2), (3, .int v3)], [.int v3, .int (w.1 98 ((v2 - 1).toNatClampNeg)), .int v2, .ref 83])) (S' := (am_sh, hx, w.1, w.2)) rfl ?_
        obtain ⟨r15, h_r15, hp⟩ := am_bind hp
        refine am_Rn.call am_h247 (mj := 241) (As := [.ref 83, .int v2, .int (w.1 98 ((v2 - 1).toNatClampNeg)), .int v3]) (F' := (69, [(0, .ref 83), (1, .int v1), (2, .int v2), (3, .int v3)], [])) (M' := am_m241) (r := some (.int r15)) (S1 := (am_sh, hx, w.1, w.2)) rfl am_h241 rfl (ezM_swapped (by omega) v2 (w.1 98 ((v2 - 1).toNatClampNeg)) v3 w _ h_r15) ?_
        exact ezM_goAlong_J69 hd R k7 (fun v1 v2 v3 w => zM_goAlong_L29 k7 n v1 v2 v3 w) hk7 (fun v1 v2 v3 w hp => ezM_goAlong_L29 hd R k7 hk7 n v1 v2 v3 w hp) v1 v2 v3 r15 w hp
    · refine am_Rn.run am_h247 2 (F' := (29, [(3, .int (v3 + 1)), (0, .ref 83), (1, .int v1), (2, .int v2)], [])) (S' := (am_sh, hx, w.1, w.2)) rfl ?_
      refine am_Rn.sub [1, 2, 3, 0] rfl rfl ?_
      exact ezM_goAlong_L29 hd R k7 hk7 n v1 v2 (v3 + 1) w hp
def zM_goAlong_L7 : Nat → Int32 → Int32 → zHM → Option (zHM)
  | 0, _, _, _ => none
  | n + 1, v1, v2, w => if v2 < (w.1 84 6) then (if 0 < v2 then ((zM_findPasses v2 w).bind fun r4 => zM_goAlong_L29 (fun v1 v2 w => zM_goAlong_L7 n v1 v2 w) am_N v1 v2 0 r4) else (zM_goAlong_L29 (fun v1 v2 w => zM_goAlong_L7 n v1 v2 w) am_N v1 v2 0 w)) else (some w)
set_option maxRecDepth 20000 in
theorem ezM_goAlong_L7 {d : Nat} (hd : 6 ≤ d) (R : zHM) : ∀ (n : Nat) (v1 : Int32) (v2 : Int32) (w : zHM), zM_goAlong_L7 n v1 v2 w = some R → am_Rn 83 Xs am_P d 247 (7, [(0, .ref 83), (1, .int v1), (2, .int v2)], []) (am_sh, hx, w.1, w.2) (none, (am_sh, hx, R.1, R.2))
  | 0, _, _, _, hp => by cases hp
  | n + 1, v1, v2, w, hp => by
    obtain ⟨d, rfl⟩ : ∃ k, d = k + 1 := ⟨d - 1, by omega⟩
    unfold zM_goAlong_L7 at hp
    refine am_Rn.run am_h247 5 (F' := (15, [(0, .ref 83), (1, .int v1), (2, .int v2)], [.int (w.1 84 6), .int v2])) (S' := (am_sh, hx, w.1, w.2)) rfl ?_
    refine am_Rn.ite am_h247 (c := v2 < (w.1 84 6)) (t := 18) (f := 118) (lv := [(0, .ref 83), (1, .int v1), (2, .int v2)]) (st := []) (S' := (am_sh, hx, w.1, w.2)) rfl hp (fun hc2 hp => ?_) (fun hc2 hp => ?_)
    · refine am_Rn.run am_h247 1 (F' := (19, [(0, .ref 83), (1, .int v1), (2, .int v2)], [.int v2])) (S' := (am_sh, hx, w.1, w.2)) rfl ?_
      refine am_Rn.ite am_h247 (c := 0 < v2) (t := 22) (f := 27) (lv := [(0, .ref 83), (1, .int v1), (2, .int v2)]) (st := []) (S' := (am_sh, hx, w.1, w.2)) rfl hp (fun hc3 hp => ?_) (fun hc3 hp => ?_)
      · refine am_Rn.run am_h247 2 (F' := (24, [(0, .ref 83), (1, .int v1), (2, .int v2)], [.int v2, .ref 83])) (S' := (am_sh, hx, w.1, w.2)) rfl ?_
        obtain ⟨r4, h_r4, hp⟩ := am_bind hp
        refine am_Rn.call am_h247 (mj := 239) (As := [.ref 83, .int v2]) (F' := (27, [(0, .ref 83), (1, .int v1), (2, .int v2)], [])) (M' := am_m239) (r := none) (S1 := (am_sh, hx, r4.1, r4.2)) rfl am_h239 rfl (ezM_findPasses (by omega) v2 w _ h_r4) ?_
        refine am_Rn.run am_h247 2 (F' := (29, [(3, .int 0), (0, .ref 83), (1, .int v1), (2, .int v2)], [])) (S' := (am_sh, hx, r4.1, r4.2)) rfl ?_
        refine am_Rn.sub [1, 2, 3, 0] rfl rfl ?_
        exact ezM_goAlong_L29 hd R (fun v1 v2 w => zM_goAlong_L7 n v1 v2 w) (fun v1 v2 w hp => ezM_goAlong_L7 hd R n v1 v2 w hp) am_N v1 v2 0 r4 hp
      · refine am_Rn.run am_h247 2 (F' := (29, [(3, .int 0), (0, .ref 83), (1, .int v1), (2, .int v2)], [])) (S' := (am_sh, hx, w.1, w.2)) rfl ?_
        refine am_Rn.sub [1, 2, 3, 0] rfl rfl ?_
        exact ezM_goAlong_L29 hd R (fun v1 v2 w => zM_goAlong_L7 n v1 v2 w) (fun v1 v2 w hp => ezM_goAlong_L7 hd R n v1 v2 w hp) am_N v1 v2 0 w hp
    · cases hp
      exact am_Rn.ret am_h247 rfl
def zM_goAlong (w : zHM) : Option (zHM) := (zM_leastOf w).bind fun r1 => zM_goAlong_L7 am_N r1 0 w
set_option maxRecDepth 20000 in
theorem ezM_goAlong {d : Nat} (hd : 6 ≤ d) (w : zHM) (R : zHM) (hp : zM_goAlong w = some R) : am_Ev 83 Xs am_P d 247 [.ref 83] (am_sh, hx, w.1, w.2) (none, (am_sh, hx, R.1, R.2)) := by
  obtain ⟨d, rfl⟩ : ∃ k, d = k + 1 := ⟨d - 1, by omega⟩
  unfold zM_goAlong at hp
  show am_Rn 83 Xs am_P _ 247 (0, [(0, .ref 83)], []) _ _
  refine am_Rn.run am_h247 1 (F' := (1, [(0, .ref 83)], [.ref 83])) (S' := (am_sh, hx, w.1, w.2)) rfl ?_
  obtain ⟨r1, h_r1, hp⟩ := am_bind hp
  refine am_Rn.call am_h247 (mj := 244) (As := [.ref 83]) (F' := (4, [(0, .ref 83)], [])) (M' := am_m244) (r := some (.int r1)) (S1 := (am_sh, hx, w.1, w.2)) rfl am_h244 rfl (ezM_leastOf (by omega) w _ h_r1) ?_
  refine am_Rn.run am_h247 3 (F' := (7, [(2, .int 0), (1, .int r1), (0, .ref 83)], [])) (S' := (am_sh, hx, w.1, w.2)) rfl ?_
  refine am_Rn.sub [2, 1, 0] rfl rfl ?_
  exact ezM_goAlong_L7 hd R am_N r1 0 w hp
/-- SixHandsModel.found(III)I [83] -/
def zM_found (v1 : Int32) (v2 : Int32) (v3 : Int32) (w : zHM) : Option (Int32 × zHM) := am_b (zM_isBeat v2 w) fun r1 => if r1 = 0 then (some (((-1), w))) else (am_b (zM_isFigure v3 w) fun r3 => if r3 = 0 then (some (((-1), w))) else ((zM_fewest v1 w).bind fun r5 => if r5.1 < 0 then (some (((-1), r5.2))) else ((zM_goAlong r5.2).bind fun r7 => am_ix 24 v2 ((zM_setOf v2 (r7.1 98 (v2.toNatClampNeg)) v3 r7).bind fun r9 => some ((r9, r7))))))
set_option maxRecDepth 20000 in
theorem ezM_found {d : Nat} (hd : 9 ≤ d) (v1 : Int32) (v2 : Int32) (v3 : Int32) (w : zHM) (R : Int32 × zHM) (hp : zM_found v1 v2 v3 w = some R) : am_Ev 83 Xs am_P d 248 [.ref 83, .int v1, .int v2, .int v3] (am_sh, hx, w.1, w.2) (some (.int R.1), (am_sh, hx, R.2.1, R.2.2)) := by
  obtain ⟨d, rfl⟩ : ∃ k, d = k + 1 := ⟨d - 1, by omega⟩
  unfold zM_found at hp
  show am_Rn 83 Xs am_P _ 248 (0, [(0, .ref 83), (1, .int v1), (2, .int v2), (3, .int v3)], []) _ _
  refine am_Rn.run am_h248 2 (F' := (2, [(0, .ref 83), (1, .int v1), (2, .int v2), (3, .int v3)], [.int v2, .ref 83])) (S' := (am_sh, hx, w.1, w.2)) rfl ?_
  obtain ⟨r1, h_r1, hp⟩ := am_b_e hp
  refine am_Rn.call am_h248 (mj := 155) (As := [.ref 83, .int v2]) (F' := (5, [(0, .ref 83), (1, .int v1), (2, .int v2), (3, .int v3)], [])) (M' := am_m155) (r := some (.int r1)) (S1 := (am_sh, hx, w.1, w.2)) rfl am_h155 rfl (by subst h_r1; exact (ezM_isBeat (by omega) v2 w)) ?_
  refine am_Rn.ite am_h248 (c := r1 = 0) (t := 24) (f := 8) (lv := [(0, .ref 83), (1, .int v1), (2, .int v2), (3, .int v3)]) (st := []) (S' := (am_sh, hx, w.1, w.2)) rfl hp (fun hc2 hp => ?_) (fun hc2 hp => ?_)
  · refine am_Rn.run am_h248 1 (F' := (25, [(0, .ref 83), (1, .int v1), (2, .int v2), (3, .int v3)], [.int (-1)])) (S' := (am_sh, hx, w.1, w.2)) rfl ?_
    cases hp
    exact am_Rn.ret am_h248 rfl
  · refine am_Rn.run am_h248 2 (F' := (10, [(0, .ref 83), (1, .int v1), (2, .int v2), (3, .int v3)], [.int v3, .ref 83])) (S' := (am_sh, hx, w.1, w.2)) rfl ?_
    obtain ⟨r3, h_r3, hp⟩ := am_b_e hp
    refine am_Rn.call am_h248 (mj := 154) (As := [.ref 83, .int v3]) (F' := (13, [(0, .ref 83), (1, .int v1), (2, .int v2), (3, .int v3)], [])) (M' := am_m154) (r := some (.int r3)) (S1 := (am_sh, hx, w.1, w.2)) rfl am_h154 rfl (by subst h_r3; exact (ezM_isFigure (by omega) v3 w)) ?_
    refine am_Rn.ite am_h248 (c := r3 = 0) (t := 24) (f := 16) (lv := [(0, .ref 83), (1, .int v1), (2, .int v2), (3, .int v3)]) (st := []) (S' := (am_sh, hx, w.1, w.2)) rfl hp (fun hc4 hp => ?_) (fun hc4 hp => ?_)
    · refine am_Rn.run am_h248 1 (F' := (25, [(0, .ref 83), (1, .int v1), (2, .int v2), (3, .int v3)], [.int (-1)])) (S' := (am_sh, hx, w.1, w.2)) rfl ?_
      cases hp
      exact am_Rn.ret am_h248 rfl
    · refine am_Rn.run am_h248 2 (F' := (18, [(0, .ref 83), (1, .int v1), (2, .int v2), (3, .int v3)], [.int v1, .ref 83])) (S' := (am_sh, hx, w.1, w.2)) rfl ?_
      obtain ⟨r5, h_r5, hp⟩ := am_bind hp
      refine am_Rn.call am_h248 (mj := 246) (As := [.ref 83, .int v1]) (F' := (21, [(0, .ref 83), (1, .int v1), (2, .int v2), (3, .int v3)], [])) (M' := am_m246) (r := some (.int r5.1)) (S1 := (am_sh, hx, r5.2.1, r5.2.2)) rfl am_h246 rfl (ezM_fewest (by omega) v1 w _ h_r5) ?_
      refine am_Rn.ite am_h248 (c := r5.1 < 0) (t := 24) (f := 26) (lv := [(0, .ref 83), (1, .int v1), (2, .int v2), (3, .int v3)]) (st := []) (S' := (am_sh, hx, r5.2.1, r5.2.2)) rfl hp (fun hc6 hp => ?_) (fun hc6 hp => ?_)
      · refine am_Rn.run am_h248 1 (F' := (25, [(0, .ref 83), (1, .int v1), (2, .int v2), (3, .int v3)], [.int (-1)])) (S' := (am_sh, hx, r5.2.1, r5.2.2)) rfl ?_
        cases hp
        exact am_Rn.ret am_h248 rfl
      · refine am_Rn.run am_h248 1 (F' := (27, [(0, .ref 83), (1, .int v1), (2, .int v2), (3, .int v3)], [.ref 83])) (S' := (am_sh, hx, r5.2.1, r5.2.2)) rfl ?_
        obtain ⟨r7, h_r7, hp⟩ := am_bind hp
        refine am_Rn.call am_h248 (mj := 247) (As := [.ref 83]) (F' := (30, [(0, .ref 83), (1, .int v1), (2, .int v2), (3, .int v3)], [])) (M' := am_m247) (r := none) (S1 := (am_sh, hx, r7.1, r7.2)) rfl am_h247 rfl (ezM_goAlong (by omega) r5.2 _ h_r7) ?_
        refine am_Rn.run am_h248 5 (F' := (37, [(0, .ref 83), (1, .int v1), (2, .int v2), (3, .int v3)], [.int v2, .ref 98, .int v2, .ref 83])) (S' := (am_sh, hx, r7.1, r7.2)) rfl ?_
        obtain ⟨hn8, hp⟩ := am_ix_e hp
        refine am_Rn.stepG am_h248 (c := v2 < 0 ∨ 24 ≤ v2.toNatClampNeg) (F' := (38, [(0, .ref 83), (1, .int v1), (2, .int v2), (3, .int v3)], [.int (r7.1 98 (v2.toNatClampNeg)), .int v2, .ref 83])) (S' := (am_sh, hx, r7.1, r7.2)) rfl hn8 ?_
        refine am_Rn.run am_h248 1 (F' := (39, [(0, .ref 83), (1, .int v1), (2, .int v2), (3, .int v3)], [.int v3, .int (r7.1 98 (v2.toNatClampNeg)), .int v2, .ref 83])) (S' := (am_sh, hx, r7.1, r7.2)) rfl ?_
        obtain ⟨r9, h_r9, hp⟩ := am_bind hp
        refine am_Rn.call am_h248 (mj := 240) (As := [.ref 83, .int v2, .int (r7.1 98 (v2.toNatClampNeg)), .int v3]) (F' := (42, [(0, .ref 83), (1, .int v1), (2, .int v2), (3, .int v3)], [])) (M' := am_m240) (r := some (.int r9)) (S1 := (am_sh, hx, r7.1, r7.2)) rfl am_h240 rfl (ezM_setOf (by omega) v2 (r7.1 98 (v2.toNatClampNeg)) v3 r7 _ h_r9) ?_
        cases hp
        exact am_Rn.ret am_h248 rfl
/-- SixHandsModel.take(I)I [83] -/
def zM_take_L32 (k18 : Int32 → Int32 → zHM → Option (Int32 × zHM)) : Nat → Int32 → Int32 → Int32 → zHM → Option (Int32 × zHM)
  | 0, _, _, _, _ => none
  | n + 1, v2, v3, v4, w => if v4 < 6 then (am_ix 24 v3 ((zM_setOf v3 (w.1 98 (v3.toNatClampNeg)) v4 w).bind fun r7 => am_ix 350 ((200 + (6 * v3)) + v4) (am_b ((va_up w.1 84 (upd (w.1 84) (((200 + (6 * v3)) + v4).toNatClampNeg) r7), w.2)) fun w9 => zM_take_L32 k18 n v2 v3 (v4 + 1) w9))) else (k18 v2 (v3 + 1) w)
set_option maxRecDepth 20000 in
theorem ezM_take_L32 {d : Nat} (hd : 9 ≤ d) (R : Int32 × zHM) (k18 : Int32 → Int32 → zHM → Option (Int32 × zHM)) (hk18 : ∀ (v2 : Int32) (v3 : Int32) (w : zHM), k18 v2 v3 w = some R → am_Rn 83 Xs am_P d 249 (18, [(0, .ref 83), (2, .int v2), (3, .int v3)], []) (am_sh, hx, w.1, w.2) (some (.int R.1), (am_sh, hx, R.2.1, R.2.2))) : ∀ (n : Nat) (v2 : Int32) (v3 : Int32) (v4 : Int32) (w : zHM), zM_take_L32 k18 n v2 v3 v4 w = some R → am_Rn 83 Xs am_P d 249 (32, [(0, .ref 83), (2, .int v2), (3, .int v3), (4, .int v4)], []) (am_sh, hx, w.1, w.2) (some (.int R.1), (am_sh, hx, R.2.1, R.2.2))
  | 0, _, _, _, _, hp => by cases hp
  | n + 1, v2, v3, v4, w, hp => by
    obtain ⟨d, rfl⟩ : ∃ k, d = k + 1 := ⟨d - 1, by omega⟩
    unfold zM_take_L32 at hp
    refine am_Rn.run am_h249 2 (F' := (36, [(0, .ref 83), (2, .int v2), (3, .int v3), (4, .int v4)], [.int 6, .int v4])) (S' := (am_sh, hx, w.1, w.2)) rfl ?_
    refine am_Rn.ite am_h249 (c := v4 < 6) (t := 39) (f := 74) (lv := [(0, .ref 83), (2, .int v2), (3, .int v3), (4, .int v4)]) (st := []) (S' := (am_sh, hx, w.1, w.2)) rfl hp (fun hc5 hp => ?_) (fun hc5 hp => ?_)
    · refine am_Rn.run am_h249 14 (F' := (61, [(0, .ref 83), (2, .int v2), (3, .int v3), (4, .int v4)], [.int v3, .ref 98, .int v3, .ref 83, .int ((200 + (6 * v3)) + v4), .ref 84])) (S' := (am_sh, hx, w.1, w.2)) rfl ?_
      obtain ⟨hn6, hp⟩ := am_ix_e hp
      refine am_Rn.stepG am_h249 (c := v3 < 0 ∨ 24 ≤ v3.toNatClampNeg) (F' := (62, [(0, .ref 83), (2, .int v2), (3, .int v3), (4, .int v4)], [.int (w.1 98 (v3.toNatClampNeg)), .int v3, .ref 83, .int ((200 + (6 * v3)) + v4), .ref 84])) (S' := (am_sh, hx, w.1, w.2)) rfl hn6 ?_
      refine am_Rn.run am_h249 1 (F' := (64, [(0, .ref 83), (2, .int v2), (3, .int v3), (4, .int v4)], [.int v4, .int (w.1 98 (v3.toNatClampNeg)), .int v3, .ref 83, .int ((200 + (6 * v3)) + v4), .ref 84])) (S' := (am_sh, hx, w.1, w.2)) rfl ?_
      obtain ⟨r7, h_r7, hp⟩ := am_bind hp
      refine am_Rn.call am_h249 (mj := 240) (As := [.ref 83, .int v3, .int (w.1 98 (v3.toNatClampNeg)), .int v4]) (F' := (67, [(0, .ref 83), (2, .int v2), (3, .int v3), (4, .int v4)], [.int ((200 + (6 * v3)) + v4), .ref 84])) (M' := am_m240) (r := some (.int r7)) (S1 := (am_sh, hx, w.1, w.2)) rfl am_h240 rfl (ezM_setOf (by omega) v3 (w.1 98 (v3.toNatClampNeg)) v4 w _ h_r7) ?_
      obtain ⟨hn8, hp⟩ := am_ix_e hp
      obtain ⟨w9, h_w9, hp⟩ := am_b_e hp
      refine am_Rn.stepG am_h249 (c := ((200 + (6 * v3)) + v4) < 0 ∨ 350 ≤ ((200 + (6 * v3)) + v4).toNatClampNeg) (F' := (68, [(0, .ref 83), (2, .int v2), (3, .int v3), (4, .int v4)], [])) (S' := (am_sh, hx, w9.1, w9.2)) (by subst h_w9; rfl) hn8 ?_
      refine am_Rn.run am_h249 2 (F' := (32, [(4, .int (v4 + 1)), (0, .ref 83), (2, .int v2), (3, .int v3)], [])) (S' := (am_sh, hx, w9.1, w9.2)) rfl ?_
      refine am_Rn.sub [1, 2, 3, 0] rfl rfl ?_
      exact ezM_take_L32 hd R k18 hk18 n v2 v3 (v4 + 1) w9 hp
    · refine am_Rn.run am_h249 2 (F' := (18, [(3, .int (v3 + 1)), (0, .ref 83), (2, .int v2), (4, .int v4)], [])) (S' := (am_sh, hx, w.1, w.2)) rfl ?_
      refine am_Rn.sub [1, 2, 0] rfl rfl ?_
      exact hk18 v2 (v3 + 1) w hp
def zM_take_L18 : Nat → Int32 → Int32 → zHM → Option (Int32 × zHM)
  | 0, _, _, _ => none
  | n + 1, v2, v3, w => if v3 < (w.1 84 6) then (zM_take_L32 (fun v2 v3 w => zM_take_L18 n v2 v3 w) am_N v2 v3 0 w) else (some ((v2, w)))
set_option maxRecDepth 20000 in
theorem ezM_take_L18 {d : Nat} (hd : 9 ≤ d) (R : Int32 × zHM) : ∀ (n : Nat) (v2 : Int32) (v3 : Int32) (w : zHM), zM_take_L18 n v2 v3 w = some R → am_Rn 83 Xs am_P d 249 (18, [(0, .ref 83), (2, .int v2), (3, .int v3)], []) (am_sh, hx, w.1, w.2) (some (.int R.1), (am_sh, hx, R.2.1, R.2.2))
  | 0, _, _, _, hp => by cases hp
  | n + 1, v2, v3, w, hp => by
    obtain ⟨d, rfl⟩ : ∃ k, d = k + 1 := ⟨d - 1, by omega⟩
    unfold zM_take_L18 at hp
    refine am_Rn.run am_h249 5 (F' := (26, [(0, .ref 83), (2, .int v2), (3, .int v3)], [.int (w.1 84 6), .int v3])) (S' := (am_sh, hx, w.1, w.2)) rfl ?_
    refine am_Rn.ite am_h249 (c := v3 < (w.1 84 6)) (t := 29) (f := 80) (lv := [(0, .ref 83), (2, .int v2), (3, .int v3)]) (st := []) (S' := (am_sh, hx, w.1, w.2)) rfl hp (fun hc4 hp => ?_) (fun hc4 hp => ?_)
    · refine am_Rn.run am_h249 2 (F' := (32, [(4, .int 0), (0, .ref 83), (2, .int v2), (3, .int v3)], [])) (S' := (am_sh, hx, w.1, w.2)) rfl ?_
      refine am_Rn.sub [1, 2, 3, 0] rfl rfl ?_
      exact ezM_take_L32 hd R (fun v2 v3 w => zM_take_L18 n v2 v3 w) (fun v2 v3 w hp => ezM_take_L18 hd R n v2 v3 w hp) am_N v2 v3 0 w hp
    · refine am_Rn.run am_h249 1 (F' := (81, [(0, .ref 83), (2, .int v2), (3, .int v3)], [.int v2])) (S' := (am_sh, hx, w.1, w.2)) rfl ?_
      cases hp
      exact am_Rn.ret am_h249 rfl
def zM_take (v1 : Int32) (w : zHM) : Option (Int32 × zHM) := (zM_fewest v1 w).bind fun r1 => if r1.1 < 0 then (some (((-1), r1.2))) else ((zM_goAlong r1.2).bind fun r3 => zM_take_L18 am_N r1.1 0 r3)
set_option maxRecDepth 20000 in
theorem ezM_take {d : Nat} (hd : 9 ≤ d) (v1 : Int32) (w : zHM) (R : Int32 × zHM) (hp : zM_take v1 w = some R) : am_Ev 83 Xs am_P d 249 [.ref 83, .int v1] (am_sh, hx, w.1, w.2) (some (.int R.1), (am_sh, hx, R.2.1, R.2.2)) := by
  obtain ⟨d, rfl⟩ : ∃ k, d = k + 1 := ⟨d - 1, by omega⟩
  unfold zM_take at hp
  show am_Rn 83 Xs am_P _ 249 (0, [(0, .ref 83), (1, .int v1)], []) _ _
  refine am_Rn.run am_h249 2 (F' := (2, [(0, .ref 83), (1, .int v1)], [.int v1, .ref 83])) (S' := (am_sh, hx, w.1, w.2)) rfl ?_
  obtain ⟨r1, h_r1, hp⟩ := am_bind hp
  refine am_Rn.call am_h249 (mj := 246) (As := [.ref 83, .int v1]) (F' := (5, [(0, .ref 83), (1, .int v1)], [])) (M' := am_m246) (r := some (.int r1.1)) (S1 := (am_sh, hx, r1.2.1, r1.2.2)) rfl am_h246 rfl (ezM_fewest (by omega) v1 w _ h_r1) ?_
  refine am_Rn.run am_h249 2 (F' := (7, [(2, .int r1.1), (0, .ref 83), (1, .int v1)], [.int r1.1])) (S' := (am_sh, hx, r1.2.1, r1.2.2)) rfl ?_
  refine am_Rn.ite am_h249 (c := r1.1 < 0) (t := 10) (f := 12) (lv := [(2, .int r1.1), (0, .ref 83), (1, .int v1)]) (st := []) (S' := (am_sh, hx, r1.2.1, r1.2.2)) rfl hp (fun hc2 hp => ?_) (fun hc2 hp => ?_)
  · refine am_Rn.run am_h249 1 (F' := (11, [(2, .int r1.1), (0, .ref 83), (1, .int v1)], [.int (-1)])) (S' := (am_sh, hx, r1.2.1, r1.2.2)) rfl ?_
    cases hp
    exact am_Rn.ret am_h249 rfl
  · refine am_Rn.run am_h249 1 (F' := (13, [(2, .int r1.1), (0, .ref 83), (1, .int v1)], [.ref 83])) (S' := (am_sh, hx, r1.2.1, r1.2.2)) rfl ?_
    obtain ⟨r3, h_r3, hp⟩ := am_bind hp
    refine am_Rn.call am_h249 (mj := 247) (As := [.ref 83]) (F' := (16, [(2, .int r1.1), (0, .ref 83), (1, .int v1)], [])) (M' := am_m247) (r := none) (S1 := (am_sh, hx, r3.1, r3.2)) rfl am_h247 rfl (ezM_goAlong (by omega) r1.2 _ h_r3) ?_
    refine am_Rn.run am_h249 2 (F' := (18, [(3, .int 0), (2, .int r1.1), (0, .ref 83), (1, .int v1)], [])) (S' := (am_sh, hx, r3.1, r3.2)) rfl ?_
    refine am_Rn.sub [2, 1, 0] rfl rfl ?_
    exact ezM_take_L18 hd R am_N r1.1 0 r3 hp
/-- SixHandsModel.least()I [83] -/
def zM_least_L14 (k2 : Int32 → zHM → Option (Int32 × zHM)) : Nat → Int32 → Int32 → zHM → Option (Int32 × zHM)
  | 0, _, _, _ => none
  | n + 1, v1, v2, w => if v2 < ((1 : Int32) <<< ((w.1 84 0) &&& 31)) then ((zM_bits v2).bind fun r3 => if r3 = v1 then ((zM_fewest v2 w).bind fun r5 => if r5.1 < 0 then (zM_least_L14 k2 n v1 (v2 + 1) r5.2) else (some ((v2, r5.2)))) else (zM_least_L14 k2 n v1 (v2 + 1) w)) else (k2 (v1 + 1) w)
set_option maxRecDepth 20000 in
theorem ezM_least_L14 {d : Nat} (hd : 9 ≤ d) (R : Int32 × zHM) (k2 : Int32 → zHM → Option (Int32 × zHM)) (hk2 : ∀ (v1 : Int32) (w : zHM), k2 v1 w = some R → am_Rn 83 Xs am_P d 250 (2, [(0, .ref 83), (1, .int v1)], []) (am_sh, hx, w.1, w.2) (some (.int R.1), (am_sh, hx, R.2.1, R.2.2))) : ∀ (n : Nat) (v1 : Int32) (v2 : Int32) (w : zHM), zM_least_L14 k2 n v1 v2 w = some R → am_Rn 83 Xs am_P d 250 (14, [(0, .ref 83), (1, .int v1), (2, .int v2)], []) (am_sh, hx, w.1, w.2) (some (.int R.1), (am_sh, hx, R.2.1, R.2.2))
  | 0, _, _, _, hp => by cases hp
  | n + 1, v1, v2, w, hp => by
    obtain ⟨d, rfl⟩ : ∃ k, d = k + 1 := ⟨d - 1, by omega⟩
    unfold zM_least_L14 at hp
    refine am_Rn.run am_h250 7 (F' := (23, [(0, .ref 83), (1, .int v1), (2, .int v2)], [.int ((1 : Int32) <<< ((w.1 84 0) &&& 31)), .int v2])) (S' := (am_sh, hx, w.1, w.2)) rfl ?_
    refine am_Rn.ite am_h250 (c := v2 < ((1 : Int32) <<< ((w.1 84 0) &&& 31))) (t := 26) (f := 50) (lv := [(0, .ref 83), (1, .int v1), (2, .int v2)]) (st := []) (S' := (am_sh, hx, w.1, w.2)) rfl hp (fun hc2 hp => ?_) (fun hc2 hp => ?_)
    · refine am_Rn.run am_h250 1 (F' := (27, [(0, .ref 83), (1, .int v1), (2, .int v2)], [.int v2])) (S' := (am_sh, hx, w.1, w.2)) rfl ?_
      obtain ⟨r3, h_r3, hp⟩ := am_bind hp
      refine am_Rn.call am_h250 (mj := 161) (As := [.int v2]) (F' := (30, [(0, .ref 83), (1, .int v1), (2, .int v2)], [])) (M' := am_m161) (r := some (.int r3)) (S1 := (am_sh, hx, w.1, w.2)) rfl am_h161 rfl (ezM_bits (by omega) v2 _ h_r3) ?_
      refine am_Rn.run am_h250 1 (F' := (31, [(0, .ref 83), (1, .int v1), (2, .int v2)], [.int v1, .int r3])) (S' := (am_sh, hx, w.1, w.2)) rfl ?_
      refine am_Rn.ite am_h250 (c := r3 = v1) (t := 34) (f := 44) (lv := [(0, .ref 83), (1, .int v1), (2, .int v2)]) (st := []) (S' := (am_sh, hx, w.1, w.2)) rfl hp (fun hc4 hp => ?_) (fun hc4 hp => ?_)
      · refine am_Rn.run am_h250 2 (F' := (36, [(0, .ref 83), (1, .int v1), (2, .int v2)], [.int v2, .ref 83])) (S' := (am_sh, hx, w.1, w.2)) rfl ?_
        obtain ⟨r5, h_r5, hp⟩ := am_bind hp
        refine am_Rn.call am_h250 (mj := 246) (As := [.ref 83, .int v2]) (F' := (39, [(0, .ref 83), (1, .int v1), (2, .int v2)], [])) (M' := am_m246) (r := some (.int r5.1)) (S1 := (am_sh, hx, r5.2.1, r5.2.2)) rfl am_h246 rfl (ezM_fewest (by omega) v2 w _ h_r5) ?_
        refine am_Rn.ite am_h250 (c := r5.1 < 0) (t := 44) (f := 42) (lv := [(0, .ref 83), (1, .int v1), (2, .int v2)]) (st := []) (S' := (am_sh, hx, r5.2.1, r5.2.2)) rfl hp (fun hc6 hp => ?_) (fun hc6 hp => ?_)
        · refine am_Rn.run am_h250 2 (F' := (14, [(2, .int (v2 + 1)), (0, .ref 83), (1, .int v1)], [])) (S' := (am_sh, hx, r5.2.1, r5.2.2)) rfl ?_
          refine am_Rn.sub [1, 2, 0] rfl rfl ?_
          exact ezM_least_L14 hd R k2 hk2 n v1 (v2 + 1) r5.2 hp
        · refine am_Rn.run am_h250 1 (F' := (43, [(0, .ref 83), (1, .int v1), (2, .int v2)], [.int v2])) (S' := (am_sh, hx, r5.2.1, r5.2.2)) rfl ?_
          cases hp
          exact am_Rn.ret am_h250 rfl
      · refine am_Rn.run am_h250 2 (F' := (14, [(2, .int (v2 + 1)), (0, .ref 83), (1, .int v1)], [])) (S' := (am_sh, hx, w.1, w.2)) rfl ?_
        refine am_Rn.sub [1, 2, 0] rfl rfl ?_
        exact ezM_least_L14 hd R k2 hk2 n v1 (v2 + 1) w hp
    · refine am_Rn.run am_h250 2 (F' := (2, [(1, .int (v1 + 1)), (0, .ref 83), (2, .int v2)], [])) (S' := (am_sh, hx, w.1, w.2)) rfl ?_
      refine am_Rn.sub [1, 0] rfl rfl ?_
      exact hk2 (v1 + 1) w hp
def zM_least_L2 : Nat → Int32 → zHM → Option (Int32 × zHM)
  | 0, _, _ => none
  | n + 1, v1, w => if (w.1 84 0) < v1 then (some (((-1), w))) else (zM_least_L14 (fun v1 w => zM_least_L2 n v1 w) am_N v1 0 w)
set_option maxRecDepth 20000 in
theorem ezM_least_L2 {d : Nat} (hd : 9 ≤ d) (R : Int32 × zHM) : ∀ (n : Nat) (v1 : Int32) (w : zHM), zM_least_L2 n v1 w = some R → am_Rn 83 Xs am_P d 250 (2, [(0, .ref 83), (1, .int v1)], []) (am_sh, hx, w.1, w.2) (some (.int R.1), (am_sh, hx, R.2.1, R.2.2))
  | 0, _, _, hp => by cases hp
  | n + 1, v1, w, hp => by
    obtain ⟨d, rfl⟩ : ∃ k, d = k + 1 := ⟨d - 1, by omega⟩
    unfold zM_least_L2 at hp
    refine am_Rn.run am_h250 5 (F' := (9, [(0, .ref 83), (1, .int v1)], [.int (w.1 84 0), .int v1])) (S' := (am_sh, hx, w.1, w.2)) rfl ?_
    refine am_Rn.ite am_h250 (c := (w.1 84 0) < v1) (t := 56) (f := 12) (lv := [(0, .ref 83), (1, .int v1)]) (st := []) (S' := (am_sh, hx, w.1, w.2)) rfl hp (fun hc1 hp => ?_) (fun hc1 hp => ?_)
    · refine am_Rn.run am_h250 1 (F' := (57, [(0, .ref 83), (1, .int v1)], [.int (-1)])) (S' := (am_sh, hx, w.1, w.2)) rfl ?_
      cases hp
      exact am_Rn.ret am_h250 rfl
    · refine am_Rn.run am_h250 2 (F' := (14, [(2, .int 0), (0, .ref 83), (1, .int v1)], [])) (S' := (am_sh, hx, w.1, w.2)) rfl ?_
      refine am_Rn.sub [1, 2, 0] rfl rfl ?_
      exact ezM_least_L14 hd R (fun v1 w => zM_least_L2 n v1 w) (fun v1 w hp => ezM_least_L2 hd R n v1 w hp) am_N v1 0 w hp
def zM_least (w : zHM) : Option (Int32 × zHM) := zM_least_L2 am_N 0 w
set_option maxRecDepth 20000 in
theorem ezM_least {d : Nat} (hd : 9 ≤ d) (w : zHM) (R : Int32 × zHM) (hp : zM_least w = some R) : am_Ev 83 Xs am_P d 250 [.ref 83] (am_sh, hx, w.1, w.2) (some (.int R.1), (am_sh, hx, R.2.1, R.2.2)) := by
  obtain ⟨d, rfl⟩ : ∃ k, d = k + 1 := ⟨d - 1, by omega⟩
  unfold zM_least at hp
  show am_Rn 83 Xs am_P _ 250 (0, [(0, .ref 83)], []) _ _
  refine am_Rn.run am_h250 2 (F' := (2, [(1, .int 0), (0, .ref 83)], [])) (S' := (am_sh, hx, w.1, w.2)) rfl ?_
  refine am_Rn.sub [1, 0] rfl rfl ?_
  exact ezM_least_L2 hd R am_N 0 w hp
/-- SixHandsModel.strike(II)I [83] -/
def zM_strike_J115 (k27 : Int32 → Int32 → Int32 → Int32 → Int32 → zHM → Option (Int32 × zHM)) (v1 : Int32) (v2 : Int32) (v3 : Int32) (v4 : Int32) (v5 : Int32) (v6 : Int32) (w : zHM) : Option (Int32 × zHM) := (zM_reckon 0 v1 v5 w).bind fun r11 => (zM_leastOf r11).bind fun r12 => if r12 < 1000000 then (k27 v1 v2 v5 v6 (v5 + 1) r11) else (k27 v1 v2 v3 v4 (v5 + 1) r11)
set_option maxRecDepth 20000 in
theorem ezM_strike_J115 {d : Nat} (hd : 8 ≤ d) (R : Int32 × zHM) (k27 : Int32 → Int32 → Int32 → Int32 → Int32 → zHM → Option (Int32 × zHM)) (hk27 : ∀ (v1 : Int32) (v2 : Int32) (v3 : Int32) (v4 : Int32) (v5 : Int32) (w : zHM), k27 v1 v2 v3 v4 v5 w = some R → am_Rn 83 Xs am_P d 251 (27, [(0, .ref 83), (1, .int v1), (2, .int v2), (3, .int v3), (4, .int v4), (5, .int v5)], []) (am_sh, hx, w.1, w.2) (some (.int R.1), (am_sh, hx, R.2.1, R.2.2))) (v1 : Int32) (v2 : Int32) (v3 : Int32) (v4 : Int32) (v5 : Int32) (v6 : Int32) (w : zHM) (hp : zM_strike_J115 k27 v1 v2 v3 v4 v5 v6 w = some R) : am_Rn 83 Xs am_P d 251 (115, [(0, .ref 83), (1, .int v1), (2, .int v2), (3, .int v3), (4, .int v4), (5, .int v5), (6, .int v6)], []) (am_sh, hx, w.1, w.2) (some (.int R.1), (am_sh, hx, R.2.1, R.2.2)) := by
  obtain ⟨d, rfl⟩ : ∃ k, d = k + 1 := ⟨d - 1, by omega⟩
  unfold zM_strike_J115 at hp
  refine am_Rn.run am_h251 4 (F' := (120, [(0, .ref 83), (1, .int v1), (2, .int v2), (3, .int v3), (4, .int v4), (5, .int v5), (6, .int v6)], [.int v5, .int v1, .int 0, .ref 83])) (S' := (am_sh, hx, w.1, w.2)) rfl ?_
  obtain ⟨r11, h_r11, hp⟩ := am_bind hp
  refine am_Rn.call am_h251 (mj := 242) (As := [.ref 83, .int 0, .int v1, .int v5]) (F' := (123, [(0, .ref 83), (1, .int v1), (2, .int v2), (3, .int v3), (4, .int v4), (5, .int v5), (6, .int v6)], [])) (M' := am_m242) (r := none) (S1 := (am_sh, hx, r11.1, r11.2)) rfl am_h242 rfl (ezM_reckon (by omega) 0 v1 v5 w _ h_r11) ?_
  refine am_Rn.run am_h251 1 (F' := (124, [(0, .ref 83), (1, .int v1), (2, .int v2), (3, .int v3), (4, .int v4), (5, .int v5), (6, .int v6)], [.ref 83])) (S' := (am_sh, hx, r11.1, r11.2)) rfl ?_
  obtain ⟨r12, h_r12, hp⟩ := am_bind hp
  refine am_Rn.call am_h251 (mj := 244) (As := [.ref 83]) (F' := (127, [(0, .ref 83), (1, .int v1), (2, .int v2), (3, .int v3), (4, .int v4), (5, .int v5), (6, .int v6)], [])) (M' := am_m244) (r := some (.int r12)) (S1 := (am_sh, hx, r11.1, r11.2)) rfl am_h244 rfl (ezM_leastOf (by omega) r11 _ h_r12) ?_
  refine am_Rn.run am_h251 1 (F' := (130, [(0, .ref 83), (1, .int v1), (2, .int v2), (3, .int v3), (4, .int v4), (5, .int v5), (6, .int v6)], [.int 1000000, .int r12])) (S' := (am_sh, hx, r11.1, r11.2)) rfl ?_
  refine am_Rn.ite am_h251 (c := r12 < 1000000) (t := 136) (f := 133) (lv := [(0, .ref 83), (1, .int v1), (2, .int v2), (3, .int v3), (4, .int v4), (5, .int v5), (6, .int v6)]) (st := []) (S' := (am_sh, hx, r11.1, r11.2)) rfl hp (fun hc13 hp => ?_) (fun hc13 hp => ?_)
  · refine am_Rn.run am_h251 6 (F' := (27, [(5, .int (v5 + 1)), (4, .int v6), (3, .int v5), (0, .ref 83), (1, .int v1), (2, .int v2), (6, .int v6)], [])) (S' := (am_sh, hx, r11.1, r11.2)) rfl ?_
    refine am_Rn.sub [3, 4, 5, 2, 1, 0] rfl rfl ?_
    exact hk27 v1 v2 v5 v6 (v5 + 1) r11 hp
  · refine am_Rn.run am_h251 3 (F' := (27, [(5, .int (v5 + 1)), (0, .ref 83), (1, .int v1), (2, .int v2), (3, .int v3), (4, .int v4), (6, .int v6)], [])) (S' := (am_sh, hx, r11.1, r11.2)) rfl ?_
    refine am_Rn.sub [1, 2, 3, 4, 5, 0] rfl rfl ?_
    exact hk27 v1 v2 v3 v4 (v5 + 1) r11 hp
def zM_strike_L46 (k27 : Int32 → Int32 → Int32 → Int32 → Int32 → zHM → Option (Int32 × zHM)) : Nat → Int32 → Int32 → Int32 → Int32 → Int32 → Int32 → Int32 → zHM → Option (Int32 × zHM)
  | 0, _, _, _, _, _, _, _, _ => none
  | n + 1, v1, v2, v3, v4, v5, v6, v7, w => if v7 < (w.1 84 1) then (am_ix 350 ((20 + (2 * v7)) + 1) (am_ix 350 (34 + v7) (am_b (v6 + ((((v5 >>> (v7 &&& 31)) &&& 1) * (w.1 84 (((20 + (2 * v7)) + 1).toNatClampNeg))) * (w.1 84 ((34 + v7).toNatClampNeg)))) fun x9 => zM_strike_L46 k27 n v1 v2 v3 v4 v5 x9 (v7 + 1) w))) else (if v3 < 0 then (zM_strike_J115 k27 v1 v2 v3 v4 v5 v6 w) else (if v6 < v4 then (zM_strike_J115 k27 v1 v2 v3 v4 v5 v6 w) else (k27 v1 v2 v3 v4 (v5 + 1) w)))
set_option maxRecDepth 20000 in
theorem ezM_strike_L46 {d : Nat} (hd : 8 ≤ d) (R : Int32 × zHM) (k27 : Int32 → Int32 → Int32 → Int32 → Int32 → zHM → Option (Int32 × zHM)) (hk27 : ∀ (v1 : Int32) (v2 : Int32) (v3 : Int32) (v4 : Int32) (v5 : Int32) (w : zHM), k27 v1 v2 v3 v4 v5 w = some R → am_Rn 83 Xs am_P d 251 (27, [(0, .ref 83), (1, .int v1), (2, .int v2), (3, .int v3), (4, .int v4), (5, .int v5)], []) (am_sh, hx, w.1, w.2) (some (.int R.1), (am_sh, hx, R.2.1, R.2.2))) : ∀ (n : Nat) (v1 : Int32) (v2 : Int32) (v3 : Int32) (v4 : Int32) (v5 : Int32) (v6 : Int32) (v7 : Int32) (w : zHM), zM_strike_L46 k27 n v1 v2 v3 v4 v5 v6 v7 w = some R → am_Rn 83 Xs am_P d 251 (46, [(0, .ref 83), (1, .int v1), (2, .int v2), (3, .int v3), (4, .int v4), (5, .int v5), (6, .int v6), (7, .int v7)], []) (am_sh, hx, w.1, w.2) (some (.int R.1), (am_sh, hx, R.2.1, R.2.2))
  | 0, _, _, _, _, _, _, _, _, hp => by cases hp
  | n + 1, v1, v2, v3, v4, v5, v6, v7, w, hp => by
    obtain ⟨d, rfl⟩ : ∃ k, d = k + 1 := ⟨d - 1, by omega⟩
    unfold zM_strike_L46 at hp
    refine am_Rn.run am_h251 5 (F' := (54, [(0, .ref 83), (1, .int v1), (2, .int v2), (3, .int v3), (4, .int v4), (5, .int v5), (6, .int v6), (7, .int v7)], [.int (w.1 84 1), .int v7])) (S' := (am_sh, hx, w.1, w.2)) rfl ?_
    refine am_Rn.ite am_h251 (c := v7 < (w.1 84 1)) (t := 57) (f := 101) (lv := [(0, .ref 83), (1, .int v1), (2, .int v2), (3, .int v3), (4, .int v4), (5, .int v5), (6, .int v6), (7, .int v7)]) (st := []) (S' := (am_sh, hx, w.1, w.2)) rfl hp (fun hc6 hp => ?_) (fun hc6 hp => ?_)
    · refine am_Rn.run am_h251 15 (F' := (79, [(0, .ref 83), (1, .int v1), (2, .int v2), (3, .int v3), (4, .int v4), (5, .int v5), (6, .int v6), (7, .int v7)], [.int ((20 + (2 * v7)) + 1), .ref 84, .int ((v5 >>> (v7 &&& 31)) &&& 1), .int v6])) (S' := (am_sh, hx, w.1, w.2)) rfl ?_
      obtain ⟨hn7, hp⟩ := am_ix_e hp
      refine am_Rn.stepG am_h251 (c := ((20 + (2 * v7)) + 1) < 0 ∨ 350 ≤ ((20 + (2 * v7)) + 1).toNatClampNeg) (F' := (80, [(0, .ref 83), (1, .int v1), (2, .int v2), (3, .int v3), (4, .int v4), (5, .int v5), (6, .int v6), (7, .int v7)], [.int (w.1 84 (((20 + (2 * v7)) + 1).toNatClampNeg)), .int ((v5 >>> (v7 &&& 31)) &&& 1), .int v6])) (S' := (am_sh, hx, w.1, w.2)) rfl hn7 ?_
      refine am_Rn.run am_h251 6 (F' := (90, [(0, .ref 83), (1, .int v1), (2, .int v2), (3, .int v3), (4, .int v4), (5, .int v5), (6, .int v6), (7, .int v7)], [.int (34 + v7), .ref 84, .int (((v5 >>> (v7 &&& 31)) &&& 1) * (w.1 84 (((20 + (2 * v7)) + 1).toNatClampNeg))), .int v6])) (S' := (am_sh, hx, w.1, w.2)) rfl ?_
      obtain ⟨hn8, hp⟩ := am_ix_e hp
      refine am_Rn.stepG am_h251 (c := (34 + v7) < 0 ∨ 350 ≤ (34 + v7).toNatClampNeg) (F' := (91, [(0, .ref 83), (1, .int v1), (2, .int v2), (3, .int v3), (4, .int v4), (5, .int v5), (6, .int v6), (7, .int v7)], [.int (w.1 84 ((34 + v7).toNatClampNeg)), .int (((v5 >>> (v7 &&& 31)) &&& 1) * (w.1 84 (((20 + (2 * v7)) + 1).toNatClampNeg))), .int v6])) (S' := (am_sh, hx, w.1, w.2)) rfl hn8 ?_
      obtain ⟨x9, h_x9, hp⟩ := am_b_e hp
      refine am_Rn.run am_h251 5 (F' := (46, [(7, .int (v7 + 1)), (6, .int x9), (0, .ref 83), (1, .int v1), (2, .int v2), (3, .int v3), (4, .int v4), (5, .int v5)], [])) (S' := (am_sh, hx, w.1, w.2)) (by subst h_x9; rfl) ?_
      refine am_Rn.sub [2, 3, 4, 5, 6, 7, 1, 0] rfl rfl ?_
      exact ezM_strike_L46 hd R k27 hk27 n v1 v2 v3 v4 v5 x9 (v7 + 1) w hp
    · refine am_Rn.run am_h251 1 (F' := (102, [(0, .ref 83), (1, .int v1), (2, .int v2), (3, .int v3), (4, .int v4), (5, .int v5), (6, .int v6), (7, .int v7)], [.int v3])) (S' := (am_sh, hx, w.1, w.2)) rfl ?_
      refine am_Rn.ite am_h251 (c := v3 < 0) (t := 115) (f := 105) (lv := [(0, .ref 83), (1, .int v1), (2, .int v2), (3, .int v3), (4, .int v4), (5, .int v5), (6, .int v6), (7, .int v7)]) (st := []) (S' := (am_sh, hx, w.1, w.2)) rfl hp (fun hc10 hp => ?_) (fun hc10 hp => ?_)
      · refine am_Rn.sub [0, 1, 2, 3, 4, 5, 6] rfl rfl ?_
        exact ezM_strike_J115 hd R k27 hk27 v1 v2 v3 v4 v5 v6 w hp
      · refine am_Rn.run am_h251 2 (F' := (109, [(0, .ref 83), (1, .int v1), (2, .int v2), (3, .int v3), (4, .int v4), (5, .int v5), (6, .int v6), (7, .int v7)], [.int v4, .int v6])) (S' := (am_sh, hx, w.1, w.2)) rfl ?_
        refine am_Rn.ite am_h251 (c := v6 < v4) (t := 115) (f := 112) (lv := [(0, .ref 83), (1, .int v1), (2, .int v2), (3, .int v3), (4, .int v4), (5, .int v5), (6, .int v6), (7, .int v7)]) (st := []) (S' := (am_sh, hx, w.1, w.2)) rfl hp (fun hc14 hp => ?_) (fun hc14 hp => ?_)
        · refine am_Rn.sub [0, 1, 2, 3, 4, 5, 6] rfl rfl ?_
          exact ezM_strike_J115 hd R k27 hk27 v1 v2 v3 v4 v5 v6 w hp
        · refine am_Rn.run am_h251 3 (F' := (27, [(5, .int (v5 + 1)), (0, .ref 83), (1, .int v1), (2, .int v2), (3, .int v3), (4, .int v4), (6, .int v6), (7, .int v7)], [])) (S' := (am_sh, hx, w.1, w.2)) rfl ?_
          refine am_Rn.sub [1, 2, 3, 4, 5, 0] rfl rfl ?_
          exact hk27 v1 v2 v3 v4 (v5 + 1) w hp
def zM_strike_L27 : Nat → Int32 → Int32 → Int32 → Int32 → Int32 → zHM → Option (Int32 × zHM)
  | 0, _, _, _, _, _, _ => none
  | n + 1, v1, v2, v3, v4, v5, w => if v5 < ((1 : Int32) <<< ((w.1 84 1) &&& 31)) then (zM_strike_L46 (fun v1 v2 v3 v4 v5 w => zM_strike_L27 n v1 v2 v3 v4 v5 w) am_N v1 v2 v3 v4 v5 0 0 w) else (if v3 < 0 then (some (((-1), w))) else (if v2 = 0 then (some ((v3, w))) else (some ((v4, w)))))
set_option maxRecDepth 20000 in
theorem ezM_strike_L27 {d : Nat} (hd : 8 ≤ d) (R : Int32 × zHM) : ∀ (n : Nat) (v1 : Int32) (v2 : Int32) (v3 : Int32) (v4 : Int32) (v5 : Int32) (w : zHM), zM_strike_L27 n v1 v2 v3 v4 v5 w = some R → am_Rn 83 Xs am_P d 251 (27, [(0, .ref 83), (1, .int v1), (2, .int v2), (3, .int v3), (4, .int v4), (5, .int v5)], []) (am_sh, hx, w.1, w.2) (some (.int R.1), (am_sh, hx, R.2.1, R.2.2))
  | 0, _, _, _, _, _, _, hp => by cases hp
  | n + 1, v1, v2, v3, v4, v5, w, hp => by
    obtain ⟨d, rfl⟩ : ∃ k, d = k + 1 := ⟨d - 1, by omega⟩
    unfold zM_strike_L27 at hp
    refine am_Rn.run am_h251 7 (F' := (37, [(0, .ref 83), (1, .int v1), (2, .int v2), (3, .int v3), (4, .int v4), (5, .int v5)], [.int ((1 : Int32) <<< ((w.1 84 1) &&& 31)), .int v5])) (S' := (am_sh, hx, w.1, w.2)) rfl ?_
    refine am_Rn.ite am_h251 (c := v5 < ((1 : Int32) <<< ((w.1 84 1) &&& 31))) (t := 40) (f := 149) (lv := [(0, .ref 83), (1, .int v1), (2, .int v2), (3, .int v3), (4, .int v4), (5, .int v5)]) (st := []) (S' := (am_sh, hx, w.1, w.2)) rfl hp (fun hc5 hp => ?_) (fun hc5 hp => ?_)
    · refine am_Rn.run am_h251 4 (F' := (46, [(7, .int 0), (6, .int 0), (0, .ref 83), (1, .int v1), (2, .int v2), (3, .int v3), (4, .int v4), (5, .int v5)], [])) (S' := (am_sh, hx, w.1, w.2)) rfl ?_
      refine am_Rn.sub [2, 3, 4, 5, 6, 7, 1, 0] rfl rfl ?_
      exact ezM_strike_L46 hd R (fun v1 v2 v3 v4 v5 w => zM_strike_L27 n v1 v2 v3 v4 v5 w) (fun v1 v2 v3 v4 v5 w hp => ezM_strike_L27 hd R n v1 v2 v3 v4 v5 w hp) am_N v1 v2 v3 v4 v5 0 0 w hp
    · refine am_Rn.run am_h251 1 (F' := (150, [(0, .ref 83), (1, .int v1), (2, .int v2), (3, .int v3), (4, .int v4), (5, .int v5)], [.int v3])) (S' := (am_sh, hx, w.1, w.2)) rfl ?_
      refine am_Rn.ite am_h251 (c := v3 < 0) (t := 153) (f := 157) (lv := [(0, .ref 83), (1, .int v1), (2, .int v2), (3, .int v3), (4, .int v4), (5, .int v5)]) (st := []) (S' := (am_sh, hx, w.1, w.2)) rfl hp (fun hc15 hp => ?_) (fun hc15 hp => ?_)
      · refine am_Rn.run am_h251 2 (F' := (167, [(0, .ref 83), (1, .int v1), (2, .int v2), (3, .int v3), (4, .int v4), (5, .int v5)], [.int (-1)])) (S' := (am_sh, hx, w.1, w.2)) rfl ?_
        cases hp
        exact am_Rn.ret am_h251 rfl
      · refine am_Rn.run am_h251 1 (F' := (158, [(0, .ref 83), (1, .int v1), (2, .int v2), (3, .int v3), (4, .int v4), (5, .int v5)], [.int v2])) (S' := (am_sh, hx, w.1, w.2)) rfl ?_
        refine am_Rn.ite am_h251 (c := v2 = 0) (t := 161) (f := 165) (lv := [(0, .ref 83), (1, .int v1), (2, .int v2), (3, .int v3), (4, .int v4), (5, .int v5)]) (st := []) (S' := (am_sh, hx, w.1, w.2)) rfl hp (fun hc16 hp => ?_) (fun hc16 hp => ?_)
        · refine am_Rn.run am_h251 2 (F' := (167, [(0, .ref 83), (1, .int v1), (2, .int v2), (3, .int v3), (4, .int v4), (5, .int v5)], [.int v3])) (S' := (am_sh, hx, w.1, w.2)) rfl ?_
          cases hp
          exact am_Rn.ret am_h251 rfl
        · refine am_Rn.run am_h251 1 (F' := (167, [(0, .ref 83), (1, .int v1), (2, .int v2), (3, .int v3), (4, .int v4), (5, .int v5)], [.int v4])) (S' := (am_sh, hx, w.1, w.2)) rfl ?_
          cases hp
          exact am_Rn.ret am_h251 rfl
def zM_strike (v1 : Int32) (v2 : Int32) (w : zHM) : Option (Int32 × zHM) := am_b (zM_isSet v1 w) fun r1 => if r1 = 0 then (some (((-1), w))) else (am_b (zM_isIn v2 0 1) fun r3 => if r3 = 0 then (some (((-1), w))) else (zM_strike_L27 am_N v1 v2 (-1) 0 0 w))
set_option maxRecDepth 20000 in
theorem ezM_strike {d : Nat} (hd : 8 ≤ d) (v1 : Int32) (v2 : Int32) (w : zHM) (R : Int32 × zHM) (hp : zM_strike v1 v2 w = some R) : am_Ev 83 Xs am_P d 251 [.ref 83, .int v1, .int v2] (am_sh, hx, w.1, w.2) (some (.int R.1), (am_sh, hx, R.2.1, R.2.2)) := by
  obtain ⟨d, rfl⟩ : ∃ k, d = k + 1 := ⟨d - 1, by omega⟩
  unfold zM_strike at hp
  show am_Rn 83 Xs am_P _ 251 (0, [(0, .ref 83), (1, .int v1), (2, .int v2)], []) _ _
  refine am_Rn.run am_h251 2 (F' := (2, [(0, .ref 83), (1, .int v1), (2, .int v2)], [.int v1, .ref 83])) (S' := (am_sh, hx, w.1, w.2)) rfl ?_
  obtain ⟨r1, h_r1, hp⟩ := am_b_e hp
  refine am_Rn.call am_h251 (mj := 245) (As := [.ref 83, .int v1]) (F' := (5, [(0, .ref 83), (1, .int v1), (2, .int v2)], [])) (M' := am_m245) (r := some (.int r1)) (S1 := (am_sh, hx, w.1, w.2)) rfl am_h245 rfl (by subst h_r1; exact (ezM_isSet (by omega) v1 w)) ?_
  refine am_Rn.ite am_h251 (c := r1 = 0) (t := 17) (f := 8) (lv := [(0, .ref 83), (1, .int v1), (2, .int v2)]) (st := []) (S' := (am_sh, hx, w.1, w.2)) rfl hp (fun hc2 hp => ?_) (fun hc2 hp => ?_)
  · refine am_Rn.run am_h251 1 (F' := (18, [(0, .ref 83), (1, .int v1), (2, .int v2)], [.int (-1)])) (S' := (am_sh, hx, w.1, w.2)) rfl ?_
    cases hp
    exact am_Rn.ret am_h251 rfl
  · refine am_Rn.run am_h251 3 (F' := (11, [(0, .ref 83), (1, .int v1), (2, .int v2)], [.int 1, .int 0, .int v2])) (S' := (am_sh, hx, w.1, w.2)) rfl ?_
    obtain ⟨r3, h_r3, hp⟩ := am_b_e hp
    refine am_Rn.call am_h251 (mj := 152) (As := [.int v2, .int 0, .int 1]) (F' := (14, [(0, .ref 83), (1, .int v1), (2, .int v2)], [])) (M' := am_m152) (r := some (.int r3)) (S1 := (am_sh, hx, w.1, w.2)) rfl am_h152 rfl (by subst h_r3; exact (ezM_isIn (by omega) v2 0 1)) ?_
    refine am_Rn.ite am_h251 (c := r3 = 0) (t := 17) (f := 19) (lv := [(0, .ref 83), (1, .int v1), (2, .int v2)]) (st := []) (S' := (am_sh, hx, w.1, w.2)) rfl hp (fun hc4 hp => ?_) (fun hc4 hp => ?_)
    · refine am_Rn.run am_h251 1 (F' := (18, [(0, .ref 83), (1, .int v1), (2, .int v2)], [.int (-1)])) (S' := (am_sh, hx, w.1, w.2)) rfl ?_
      cases hp
      exact am_Rn.ret am_h251 rfl
    · refine am_Rn.run am_h251 6 (F' := (27, [(5, .int 0), (4, .int 0), (3, .int (-1)), (0, .ref 83), (1, .int v1), (2, .int v2)], [])) (S' := (am_sh, hx, w.1, w.2)) rfl ?_
      refine am_Rn.sub [3, 4, 5, 2, 1, 0] rfl rfl ?_
      exact ezM_strike_L27 hd R am_N v1 v2 (-1) 0 0 w hp
end
