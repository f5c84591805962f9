section
variable {Xs : Nat × (Nat → Int32)} {hx hm : Nat → Nat → Int32} {g : Nat → Nat → Int64} {S : am_S}
/-- SixHandsModel.swappedInto(II)I [83] -/
def zM_swappedInto_L5 : Nat → Int32 → Int32 → Int32 → Int32 → zHM → Option (Int32 × zHM)
  | 0, _, _, _, _, _ => none
  | n + 1, v1, v2, v3, v4, w => if v4 < (w.1 84 1) then ((zM_setOf v1 v2 v4 w).bind fun r2 => if r2 = 0 then (zM_swappedInto_L5 n v1 v2 v3 (v4 + 1) w) else ((zM_placeOf (v1 - 1) v4 w).bind fun r4 => if r4 < 0 then (zM_swappedInto_L5 n v1 v2 v3 (v4 + 1) w) else ((zM_heldBy (v1 - 1) v4 w).bind fun r6 => if r6 = r2 then (zM_swappedInto_L5 n v1 v2 v3 (v4 + 1) w) else ((zM_heldBy (v1 - 1) v4 w).bind fun r8 => if r8 = 0 then (some ((1000000, w))) else ((zM_heldBy (v1 - 1) v4 w).bind fun r10 => (zM_mayPass v1 v4 r10 r2 w).bind fun r11 => if r11.1 = 0 then (some ((1000000, r11.2))) else (zM_swappedInto_L5 n v1 v2 (v3 + 1) (v4 + 1) r11.2)))))) else (some ((v3, w)))
set_option maxRecDepth 20000 in
theorem ezM_swappedInto_L5 {d : Nat} (hd : 5 ≤ d) (R : Int32 × zHM) : ∀ (n : Nat) (v1 : Int32) (v2 : Int32) (v3 : Int32) (v4 : Int32) (w : zHM), zM_swappedInto_L5 n v1 v2 v3 v4 w = some R → am_Rn 83 Xs am_P d 252 (5, [(0, .ref 83), (1, .int v1), (2, .int v2), (3, .int v3), (4, .int v4)], []) (am_sh, hx, w.1, w.2) (some (.int R.1), (am_sh, hx, R.2.1, R.2.2))
  | 0, _, _, _, _, _, hp => by cases hp
  | n + 1, v1, v2, v3, v4, w, hp => by
    obtain ⟨d, rfl⟩ : ∃ k, d = k + 1 := ⟨d - 1, by omega⟩
    unfold zM_swappedInto_L5 at hp
    refine am_Rn.run am_h252 5 (F' := (13, [(0, .ref 83), (1, .int v1), (2, .int v2), (3, .int v3), (4, .int v4)], [.int (w.1 84 1), .int v4])) (S' := (am_sh, hx, w.1, w.2)) rfl ?_
    refine am_Rn.ite am_h252 (c := v4 < (w.1 84 1)) (t := 16) (f := 106) (lv := [(0, .ref 83), (1, .int v1), (2, .int v2), (3, .int v3), (4, .int v4)]) (st := []) (S' := (am_sh, hx, w.1, w.2)) rfl hp (fun hc1 hp => ?_) (fun hc1 hp => ?_)
    · refine am_Rn.run am_h252 4 (F' := (21, [(0, .ref 83), (1, .int v1), (2, .int v2), (3, .int v3), (4, .int v4)], [.int v4, .int v2, .int v1, .ref 83])) (S' := (am_sh, hx, w.1, w.2)) rfl ?_
      obtain ⟨r2, h_r2, hp⟩ := am_bind hp
      refine am_Rn.call am_h252 (mj := 240) (As := [.ref 83, .int v1, .int v2, .int v4]) (F' := (24, [(0, .ref 83), (1, .int v1), (2, .int v2), (3, .int v3), (4, .int v4)], [])) (M' := am_m240) (r := some (.int r2)) (S1 := (am_sh, hx, w.1, w.2)) rfl am_h240 rfl (ezM_setOf (by omega) v1 v2 v4 w _ h_r2) ?_
      refine am_Rn.run am_h252 2 (F' := (28, [(5, .int r2), (0, .ref 83), (1, .int v1), (2, .int v2), (3, .int v3), (4, .int v4)], [.int r2])) (S' := (am_sh, hx, w.1, w.2)) rfl ?_
      refine am_Rn.ite am_h252 (c := r2 = 0) (t := 100) (f := 31) (lv := [(5, .int r2), (0, .ref 83), (1, .int v1), (2, .int v2), (3, .int v3), (4, .int v4)]) (st := []) (S' := (am_sh, hx, w.1, w.2)) rfl hp (fun hc3 hp => ?_) (fun hc3 hp => ?_)
      · refine am_Rn.run am_h252 2 (F' := (5, [(4, .int (v4 + 1)), (5, .int r2), (0, .ref 83), (1, .int v1), (2, .int v2), (3, .int v3)], [])) (S' := (am_sh, hx, w.1, w.2)) rfl ?_
        refine am_Rn.sub [2, 3, 4, 5, 0] rfl rfl ?_
        exact ezM_swappedInto_L5 hd R n v1 v2 v3 (v4 + 1) w hp
      · refine am_Rn.run am_h252 5 (F' := (37, [(5, .int r2), (0, .ref 83), (1, .int v1), (2, .int v2), (3, .int v3), (4, .int v4)], [.int v4, .int (v1 - 1), .ref 83])) (S' := (am_sh, hx, w.1, w.2)) rfl ?_
        obtain ⟨r4, h_r4, hp⟩ := am_bind hp
        refine am_Rn.call am_h252 (mj := 159) (As := [.ref 83, .int (v1 - 1), .int v4]) (F' := (40, [(5, .int r2), (0, .ref 83), (1, .int v1), (2, .int v2), (3, .int v3), (4, .int v4)], [])) (M' := am_m159) (r := some (.int r4)) (S1 := (am_sh, hx, w.1, w.2)) rfl am_h159 rfl (ezM_placeOf (by omega) (v1 - 1) v4 w _ h_r4) ?_
        refine am_Rn.ite am_h252 (c := r4 < 0) (t := 100) (f := 43) (lv := [(5, .int r2), (0, .ref 83), (1, .int v1), (2, .int v2), (3, .int v3), (4, .int v4)]) (st := []) (S' := (am_sh, hx, w.1, w.2)) rfl hp (fun hc5 hp => ?_) (fun hc5 hp => ?_)
        · refine am_Rn.run am_h252 2 (F' := (5, [(4, .int (v4 + 1)), (5, .int r2), (0, .ref 83), (1, .int v1), (2, .int v2), (3, .int v3)], [])) (S' := (am_sh, hx, w.1, w.2)) rfl ?_
          refine am_Rn.sub [2, 3, 4, 5, 0] rfl rfl ?_
          exact ezM_swappedInto_L5 hd R n v1 v2 v3 (v4 + 1) w hp
        · refine am_Rn.run am_h252 5 (F' := (49, [(5, .int r2), (0, .ref 83), (1, .int v1), (2, .int v2), (3, .int v3), (4, .int v4)], [.int v4, .int (v1 - 1), .ref 83])) (S' := (am_sh, hx, w.1, w.2)) rfl ?_
          obtain ⟨r6, h_r6, hp⟩ := am_bind hp
          refine am_Rn.call am_h252 (mj := 160) (As := [.ref 83, .int (v1 - 1), .int v4]) (F' := (52, [(5, .int r2), (0, .ref 83), (1, .int v1), (2, .int v2), (3, .int v3), (4, .int v4)], [])) (M' := am_m160) (r := some (.int r6)) (S1 := (am_sh, hx, w.1, w.2)) rfl am_h160 rfl (ezM_heldBy (by omega) (v1 - 1) v4 w _ h_r6) ?_
          refine am_Rn.run am_h252 1 (F' := (54, [(5, .int r2), (0, .ref 83), (1, .int v1), (2, .int v2), (3, .int v3), (4, .int v4)], [.int r2, .int r6])) (S' := (am_sh, hx, w.1, w.2)) rfl ?_
          refine am_Rn.ite am_h252 (c := r6 = r2) (t := 57) (f := 60) (lv := [(5, .int r2), (0, .ref 83), (1, .int v1), (2, .int v2), (3, .int v3), (4, .int v4)]) (st := []) (S' := (am_sh, hx, w.1, w.2)) rfl hp (fun hc7 hp => ?_) (fun hc7 hp => ?_)
          · refine am_Rn.run am_h252 3 (F' := (5, [(4, .int (v4 + 1)), (5, .int r2), (0, .ref 83), (1, .int v1), (2, .int v2), (3, .int v3)], [])) (S' := (am_sh, hx, w.1, w.2)) rfl ?_
            refine am_Rn.sub [2, 3, 4, 5, 0] rfl rfl ?_
            exact ezM_swappedInto_L5 hd R n v1 v2 v3 (v4 + 1) w hp
          · refine am_Rn.run am_h252 5 (F' := (66, [(5, .int r2), (0, .ref 83), (1, .int v1), (2, .int v2), (3, .int v3), (4, .int v4)], [.int v4, .int (v1 - 1), .ref 83])) (S' := (am_sh, hx, w.1, w.2)) rfl ?_
            obtain ⟨r8, h_r8, hp⟩ := am_bind hp
            refine am_Rn.call am_h252 (mj := 160) (As := [.ref 83, .int (v1 - 1), .int v4]) (F' := (69, [(5, .int r2), (0, .ref 83), (1, .int v1), (2, .int v2), (3, .int v3), (4, .int v4)], [])) (M' := am_m160) (r := some (.int r8)) (S1 := (am_sh, hx, w.1, w.2)) rfl am_h160 rfl (ezM_heldBy (by omega) (v1 - 1) v4 w _ h_r8) ?_
            refine am_Rn.ite am_h252 (c := r8 = 0) (t := 93) (f := 72) (lv := [(5, .int r2), (0, .ref 83), (1, .int v1), (2, .int v2), (3, .int v3), (4, .int v4)]) (st := []) (S' := (am_sh, hx, w.1, w.2)) rfl hp (fun hc9 hp => ?_) (fun hc9 hp => ?_)
            · refine am_Rn.run am_h252 1 (F' := (96, [(5, .int r2), (0, .ref 83), (1, .int v1), (2, .int v2), (3, .int v3), (4, .int v4)], [.int 1000000])) (S' := (am_sh, hx, w.1, w.2)) rfl ?_
              cases hp
              exact am_Rn.ret am_h252 rfl
            · refine am_Rn.run am_h252 8 (F' := (82, [(5, .int r2), (0, .ref 83), (1, .int v1), (2, .int v2), (3, .int v3), (4, .int v4)], [.int v4, .int (v1 - 1), .ref 83, .int v4, .int v1, .ref 83])) (S' := (am_sh, hx, w.1, w.2)) rfl ?_
              obtain ⟨r10, h_r10, hp⟩ := am_bind hp
              refine am_Rn.call am_h252 (mj := 160) (As := [.ref 83, .int (v1 - 1), .int v4]) (F' := (85, [(5, .int r2), (0, .ref 83), (1, .int v1), (2, .int v2), (3, .int v3), (4, .int v4)], [.int v4, .int v1, .ref 83])) (M' := am_m160) (r := some (.int r10)) (S1 := (am_sh, hx, w.1, w.2)) rfl am_h160 rfl (ezM_heldBy (by omega) (v1 - 1) v4 w _ h_r10) ?_
              refine am_Rn.run am_h252 1 (F' := (87, [(5, .int r2), (0, .ref 83), (1, .int v1), (2, .int v2), (3, .int v3), (4, .int v4)], [.int r2, .int r10, .int v4, .int v1, .ref 83])) (S' := (am_sh, hx, w.1, w.2)) rfl ?_
              obtain ⟨r11, h_r11, hp⟩ := am_bind hp
              refine am_Rn.call am_h252 (mj := 216) (As := [.ref 83, .int v1, .int v4, .int r10, .int r2]) (F' := (90, [(5, .int r2), (0, .ref 83), (1, .int v1), (2, .int v2), (3, .int v3), (4, .int v4)], [])) (M' := am_m216) (r := some (.int r11.1)) (S1 := (am_sh, hx, r11.2.1, r11.2.2)) rfl am_h216 rfl (ezM_mayPass (by omega) v1 v4 r10 r2 w _ h_r11) ?_
              refine am_Rn.ite am_h252 (c := r11.1 = 0) (t := 93) (f := 97) (lv := [(5, .int r2), (0, .ref 83), (1, .int v1), (2, .int v2), (3, .int v3), (4, .int v4)]) (st := []) (S' := (am_sh, hx, r11.2.1, r11.2.2)) rfl hp (fun hc12 hp => ?_) (fun hc12 hp => ?_)
              · refine am_Rn.run am_h252 1 (F' := (96, [(5, .int r2), (0, .ref 83), (1, .int v1), (2, .int v2), (3, .int v3), (4, .int v4)], [.int 1000000])) (S' := (am_sh, hx, r11.2.1, r11.2.2)) rfl ?_
                cases hp
                exact am_Rn.ret am_h252 rfl
              · refine am_Rn.run am_h252 3 (F' := (5, [(4, .int (v4 + 1)), (3, .int (v3 + 1)), (5, .int r2), (0, .ref 83), (1, .int v1), (2, .int v2)], [])) (S' := (am_sh, hx, r11.2.1, r11.2.2)) rfl ?_
                refine am_Rn.sub [3, 4, 5, 1, 0] rfl rfl ?_
                exact ezM_swappedInto_L5 hd R n v1 v2 (v3 + 1) (v4 + 1) r11.2 hp
    · refine am_Rn.run am_h252 1 (F' := (107, [(0, .ref 83), (1, .int v1), (2, .int v2), (3, .int v3), (4, .int v4)], [.int v3])) (S' := (am_sh, hx, w.1, w.2)) rfl ?_
      cases hp
      exact am_Rn.ret am_h252 rfl
def zM_swappedInto (v1 : Int32) (v2 : Int32) (w : zHM) : Option (Int32 × zHM) := zM_swappedInto_L5 am_N v1 v2 0 0 w
set_option maxRecDepth 20000 in
theorem ezM_swappedInto {d : Nat} (hd : 5 ≤ d) (v1 : Int32) (v2 : Int32) (w : zHM) (R : Int32 × zHM) (hp : zM_swappedInto v1 v2 w = some R) : am_Ev 83 Xs am_P d 252 [.ref 83, .int v1, .int v2] (am_sh, hx, w.1, w.2) (some (.int R.1), (am_sh, hx, R.2.1, R.2.2)) := by
  obtain ⟨d, rfl⟩ : ∃ k, d = k + 1 := ⟨d - 1, by omega⟩
  unfold zM_swappedInto at hp
  show am_Rn 83 Xs am_P _ 252 (0, [(0, .ref 83), (1, .int v1), (2, .int v2)], []) _ _
  refine am_Rn.run am_h252 4 (F' := (5, [(4, .int 0), (3, .int 0), (0, .ref 83), (1, .int v1), (2, .int v2)], [])) (S' := (am_sh, hx, w.1, w.2)) rfl ?_
  refine am_Rn.sub [2, 3, 4, 1, 0] rfl rfl ?_
  exact ezM_swappedInto_L5 hd R am_N v1 v2 0 0 w hp
/-- SixHandsModel.ill(II)I [83] -/
def zM_ill_J94 (k55 : Int32 → Int32 → Int32 → zHM → Option (Int32 × zHM)) (v2 : Int32) (v3 : Int32) (v4 : Int32) (s0 : Int32) (s1 : Int32) (w : zHM) : Option (Int32 × zHM) := am_b (s0 + s1) fun x10 => if x10 < v3 then (k55 v2 x10 (v4 + 1) w) else (k55 v2 v3 (v4 + 1) w)
set_option maxRecDepth 20000 in
theorem ezM_ill_J94 {d : Nat} (hd : 8 ≤ d) (R : Int32 × zHM) (k55 : Int32 → Int32 → Int32 → zHM → Option (Int32 × zHM)) (hk55 : ∀ (v2 : Int32) (v3 : Int32) (v4 : Int32) (w : zHM), k55 v2 v3 v4 w = some R → am_Rn 83 Xs am_P d 253 (55, [(0, .ref 83), (2, .int v2), (3, .int v3), (4, .int v4)], []) (am_sh, hx, w.1, w.2) (some (.int R.1), (am_sh, hx, R.2.1, R.2.2))) (v2 : Int32) (v3 : Int32) (v4 : Int32) (s0 : Int32) (s1 : Int32) (w : zHM) (hp : zM_ill_J94 k55 v2 v3 v4 s0 s1 w = some R) : am_Rn 83 Xs am_P d 253 (94, [(0, .ref 83), (2, .int v2), (3, .int v3), (4, .int v4)], [.int s1, .int s0]) (am_sh, hx, w.1, w.2) (some (.int R.1), (am_sh, hx, R.2.1, R.2.2)) := by
  obtain ⟨d, rfl⟩ : ∃ k, d = k + 1 := ⟨d - 1, by omega⟩
  unfold zM_ill_J94 at hp
  obtain ⟨x10, h_x10, hp⟩ := am_b_e hp
  refine am_Rn.run am_h253 4 (F' := (100, [(5, .int x10), (0, .ref 83), (2, .int v2), (3, .int v3), (4, .int v4)], [.int v3, .int x10])) (S' := (am_sh, hx, w.1, w.2)) (by subst h_x10; rfl) ?_
  refine am_Rn.ite am_h253 (c := x10 < v3) (t := 103) (f := 106) (lv := [(5, .int x10), (0, .ref 83), (2, .int v2), (3, .int v3), (4, .int v4)]) (st := []) (S' := (am_sh, hx, w.1, w.2)) rfl hp (fun hc11 hp => ?_) (fun hc11 hp => ?_)
  · refine am_Rn.run am_h253 4 (F' := (55, [(4, .int (v4 + 1)), (3, .int x10), (5, .int x10), (0, .ref 83), (2, .int v2)], [])) (S' := (am_sh, hx, w.1, w.2)) rfl ?_
    refine am_Rn.sub [3, 4, 1, 0] rfl rfl ?_
    exact hk55 v2 x10 (v4 + 1) w hp
  · refine am_Rn.run am_h253 2 (F' := (55, [(4, .int (v4 + 1)), (5, .int x10), (0, .ref 83), (2, .int v2), (3, .int v3)], [])) (S' := (am_sh, hx, w.1, w.2)) rfl ?_
    refine am_Rn.sub [2, 3, 4, 0] rfl rfl ?_
    exact hk55 v2 v3 (v4 + 1) w hp
def zM_ill_L55 : Nat → Int32 → Int32 → Int32 → zHM → Option (Int32 × zHM)
  | 0, _, _, _, _ => none
  | n + 1, v2, v3, v4, w => am_ix 24 v2 (if v4 < (w.1 93 (v2.toNatClampNeg)) then (am_ix 17280 ((720 * v2) + v4) (if v2 = 0 then (zM_ill_J94 (fun v2 v3 v4 w => zM_ill_L55 n v2 v3 v4 w) v2 v3 v4 (w.1 94 (((720 * v2) + v4).toNatClampNeg)) 0 w) else ((zM_swappedInto v2 v4 w).bind fun r12 => zM_ill_J94 (fun v2 v3 v4 w => zM_ill_L55 n v2 v3 v4 w) v2 v3 v4 (w.1 94 (((720 * v2) + v4).toNatClampNeg)) r12.1 r12.2))) else (if v3 < 1000000 then (some ((v3, w))) else (some (((-1), w)))))
set_option maxRecDepth 20000 in
theorem ezM_ill_L55 {d : Nat} (hd : 8 ≤ d) (R : Int32 × zHM) : ∀ (n : Nat) (v2 : Int32) (v3 : Int32) (v4 : Int32) (w : zHM), zM_ill_L55 n v2 v3 v4 w = some R → am_Rn 83 Xs am_P d 253 (55, [(0, .ref 83), (2, .int v2), (3, .int v3), (4, .int v4)], []) (am_sh, hx, w.1, w.2) (some (.int R.1), (am_sh, hx, R.2.1, R.2.2))
  | 0, _, _, _, _, hp => by cases hp
  | n + 1, v2, v3, v4, w, hp => by
    obtain ⟨d, rfl⟩ : ∃ k, d = k + 1 := ⟨d - 1, by omega⟩
    unfold zM_ill_L55 at hp
    refine am_Rn.run am_h253 4 (F' := (62, [(0, .ref 83), (2, .int v2), (3, .int v3), (4, .int v4)], [.int v2, .ref 93, .int v4])) (S' := (am_sh, hx, w.1, w.2)) rfl ?_
    obtain ⟨hn6, hp⟩ := am_ix_e hp
    refine am_Rn.stepG am_h253 (c := v2 < 0 ∨ 24 ≤ v2.toNatClampNeg) (F' := (63, [(0, .ref 83), (2, .int v2), (3, .int v3), (4, .int v4)], [.int (w.1 93 (v2.toNatClampNeg)), .int v4])) (S' := (am_sh, hx, w.1, w.2)) rfl hn6 ?_
    refine am_Rn.ite am_h253 (c := v4 < (w.1 93 (v2.toNatClampNeg))) (t := 66) (f := 112) (lv := [(0, .ref 83), (2, .int v2), (3, .int v3), (4, .int v4)]) (st := []) (S' := (am_sh, hx, w.1, w.2)) rfl hp (fun hc7 hp => ?_) (fun hc7 hp => ?_)
    · refine am_Rn.run am_h253 7 (F' := (78, [(0, .ref 83), (2, .int v2), (3, .int v3), (4, .int v4)], [.int ((720 * v2) + v4), .ref 94])) (S' := (am_sh, hx, w.1, w.2)) rfl ?_
      obtain ⟨hn8, hp⟩ := am_ix_e hp
      refine am_Rn.stepG am_h253 (c := ((720 * v2) + v4) < 0 ∨ 17280 ≤ ((720 * v2) + v4).toNatClampNeg) (F' := (79, [(0, .ref 83), (2, .int v2), (3, .int v3), (4, .int v4)], [.int (w.1 94 (((720 * v2) + v4).toNatClampNeg))])) (S' := (am_sh, hx, w.1, w.2)) rfl hn8 ?_
      refine am_Rn.run am_h253 1 (F' := (80, [(0, .ref 83), (2, .int v2), (3, .int v3), (4, .int v4)], [.int v2, .int (w.1 94 (((720 * v2) + v4).toNatClampNeg))])) (S' := (am_sh, hx, w.1, w.2)) rfl ?_
      refine am_Rn.ite am_h253 (c := v2 = 0) (t := 83) (f := 87) (lv := [(0, .ref 83), (2, .int v2), (3, .int v3), (4, .int v4)]) (st := [.int (w.1 94 (((720 * v2) + v4).toNatClampNeg))]) (S' := (am_sh, hx, w.1, w.2)) rfl hp (fun hc9 hp => ?_) (fun hc9 hp => ?_)
      · refine am_Rn.run am_h253 2 (F' := (94, [(0, .ref 83), (2, .int v2), (3, .int v3), (4, .int v4)], [.int 0, .int (w.1 94 (((720 * v2) + v4).toNatClampNeg))])) (S' := (am_sh, hx, w.1, w.2)) rfl ?_
        exact ezM_ill_J94 hd R (fun v2 v3 v4 w => zM_ill_L55 n v2 v3 v4 w) (fun v2 v3 v4 w hp => ezM_ill_L55 hd R n v2 v3 v4 w hp) v2 v3 v4 (w.1 94 (((720 * v2) + v4).toNatClampNeg)) 0 w hp
      · refine am_Rn.run am_h253 3 (F' := (91, [(0, .ref 83), (2, .int v2), (3, .int v3), (4, .int v4)], [.int v4, .int v2, .ref 83, .int (w.1 94 (((720 * v2) + v4).toNatClampNeg))])) (S' := (am_sh, hx, w.1, w.2)) rfl ?_
        obtain ⟨r12, h_r12, hp⟩ := am_bind hp
        refine am_Rn.call am_h253 (mj := 252) (As := [.ref 83, .int v2, .int v4]) (F' := (94, [(0, .ref 83), (2, .int v2), (3, .int v3), (4, .int v4)], [.int (w.1 94 (((720 * v2) + v4).toNatClampNeg))])) (M' := am_m252) (r := some (.int r12.1)) (S1 := (am_sh, hx, r12.2.1, r12.2.2)) rfl am_h252 rfl (ezM_swappedInto (by omega) v2 v4 w _ h_r12) ?_
        exact ezM_ill_J94 hd R (fun v2 v3 v4 w => zM_ill_L55 n v2 v3 v4 w) (fun v2 v3 v4 w hp => ezM_ill_L55 hd R n v2 v3 v4 w hp) v2 v3 v4 (w.1 94 (((720 * v2) + v4).toNatClampNeg)) r12.1 r12.2 hp
    · refine am_Rn.run am_h253 2 (F' := (116, [(0, .ref 83), (2, .int v2), (3, .int v3), (4, .int v4)], [.int 1000000, .int v3])) (S' := (am_sh, hx, w.1, w.2)) rfl ?_
      refine am_Rn.ite am_h253 (c := v3 < 1000000) (t := 123) (f := 119) (lv := [(0, .ref 83), (2, .int v2), (3, .int v3), (4, .int v4)]) (st := []) (S' := (am_sh, hx, w.1, w.2)) rfl hp (fun hc13 hp => ?_) (fun hc13 hp => ?_)
      · refine am_Rn.run am_h253 1 (F' := (124, [(0, .ref 83), (2, .int v2), (3, .int v3), (4, .int v4)], [.int v3])) (S' := (am_sh, hx, w.1, w.2)) rfl ?_
        cases hp
        exact am_Rn.ret am_h253 rfl
      · refine am_Rn.run am_h253 2 (F' := (124, [(0, .ref 83), (2, .int v2), (3, .int v3), (4, .int v4)], [.int (-1)])) (S' := (am_sh, hx, w.1, w.2)) rfl ?_
        cases hp
        exact am_Rn.ret am_h253 rfl
def zM_ill (v1 : Int32) (v2 : Int32) (w : zHM) : Option (Int32 × zHM) := am_b (zM_isIn v1 0 ((w.1 84 0) - 1)) fun r1 => if r1 = 0 then (some (((-1), w))) else (am_b (zM_isBeat v2 w) fun r3 => if r3 = 0 then (some (((-1), w))) else ((zM_reckon v2 ((((1 : Int32) <<< ((w.1 84 0) &&& 31)) - 1) &&& (((1 : Int32) <<< (v1 &&& 31)) ^^^ (-1))) 0 w).bind fun r5 => zM_ill_L55 am_N v2 1000000 0 r5))
set_option maxRecDepth 20000 in
theorem ezM_ill {d : Nat} (hd : 8 ≤ d) (v1 : Int32) (v2 : Int32) (w : zHM) (R : Int32 × zHM) (hp : zM_ill v1 v2 w = some R) : am_Ev 83 Xs am_P d 253 [.ref 83, .int v1, .int v2] (am_sh, hx, w.1, w.2) (some (.int R.1), (am_sh, hx, R.2.1, R.2.2)) := by
  obtain ⟨d, rfl⟩ : ∃ k, d = k + 1 := ⟨d - 1, by omega⟩
  unfold zM_ill at hp
  show am_Rn 83 Xs am_P _ 253 (0, [(0, .ref 83), (1, .int v1), (2, .int v2)], []) _ _
  refine am_Rn.run am_h253 8 (F' := (10, [(0, .ref 83), (1, .int v1), (2, .int v2)], [.int ((w.1 84 0) - 1), .int 0, .int v1])) (S' := (am_sh, hx, w.1, w.2)) rfl ?_
  obtain ⟨r1, h_r1, hp⟩ := am_b_e hp
  refine am_Rn.call am_h253 (mj := 152) (As := [.int v1, .int 0, .int ((w.1 84 0) - 1)]) (F' := (13, [(0, .ref 83), (1, .int v1), (2, .int v2)], [])) (M' := am_m152) (r := some (.int r1)) (S1 := (am_sh, hx, w.1, w.2)) rfl am_h152 rfl (by subst h_r1; exact (ezM_isIn (by omega) v1 0 ((w.1 84 0) - 1))) ?_
  refine am_Rn.ite am_h253 (c := r1 = 0) (t := 24) (f := 16) (lv := [(0, .ref 83), (1, .int v1), (2, .int v2)]) (st := []) (S' := (am_sh, hx, w.1, w.2)) rfl hp (fun hc2 hp => ?_) (fun hc2 hp => ?_)
  · refine am_Rn.run am_h253 1 (F' := (25, [(0, .ref 83), (1, .int v1), (2, .int v2)], [.int (-1)])) (S' := (am_sh, hx, w.1, w.2)) rfl ?_
    cases hp
    exact am_Rn.ret am_h253 rfl
  · refine am_Rn.run am_h253 2 (F' := (18, [(0, .ref 83), (1, .int v1), (2, .int v2)], [.int v2, .ref 83])) (S' := (am_sh, hx, w.1, w.2)) rfl ?_
    obtain ⟨r3, h_r3, hp⟩ := am_b_e hp
    refine am_Rn.call am_h253 (mj := 155) (As := [.ref 83, .int v2]) (F' := (21, [(0, .ref 83), (1, .int v1), (2, .int v2)], [])) (M' := am_m155) (r := some (.int r3)) (S1 := (am_sh, hx, w.1, w.2)) rfl am_h155 rfl (by subst h_r3; exact (ezM_isBeat (by omega) v2 w)) ?_
    refine am_Rn.ite am_h253 (c := r3 = 0) (t := 24) (f := 26) (lv := [(0, .ref 83), (1, .int v1), (2, .int v2)]) (st := []) (S' := (am_sh, hx, w.1, w.2)) rfl hp (fun hc4 hp => ?_) (fun hc4 hp => ?_)
    · refine am_Rn.run am_h253 1 (F' := (25, [(0, .ref 83), (1, .int v1), (2, .int v2)], [.int (-1)])) (S' := (am_sh, hx, w.1, w.2)) rfl ?_
      cases hp
      exact am_Rn.ret am_h253 rfl
    · refine am_Rn.run am_h253 17 (F' := (45, [(0, .ref 83), (1, .int v1), (2, .int v2)], [.int 0, .int ((((1 : Int32) <<< ((w.1 84 0) &&& 31)) - 1) &&& (((1 : Int32) <<< (v1 &&& 31)) ^^^ (-1))), .int v2, .ref 83])) (S' := (am_sh, hx, w.1, w.2)) rfl ?_
      obtain ⟨r5, h_r5, hp⟩ := am_bind hp
      refine am_Rn.call am_h253 (mj := 242) (As := [.ref 83, .int v2, .int ((((1 : Int32) <<< ((w.1 84 0) &&& 31)) - 1) &&& (((1 : Int32) <<< (v1 &&& 31)) ^^^ (-1))), .int 0]) (F' := (48, [(0, .ref 83), (1, .int v1), (2, .int v2)], [])) (M' := am_m242) (r := none) (S1 := (am_sh, hx, r5.1, r5.2)) rfl am_h242 rfl (ezM_reckon (by omega) v2 ((((1 : Int32) <<< ((w.1 84 0) &&& 31)) - 1) &&& (((1 : Int32) <<< (v1 &&& 31)) ^^^ (-1))) 0 w _ h_r5) ?_
      refine am_Rn.run am_h253 4 (F' := (55, [(4, .int 0), (3, .int 1000000), (0, .ref 83), (1, .int v1), (2, .int v2)], [])) (S' := (am_sh, hx, r5.1, r5.2)) rfl ?_
      refine am_Rn.sub [2, 4, 1, 0] rfl rfl ?_
      exact ezM_ill_L55 hd R am_N v2 1000000 0 r5 hp
/-- SixHandsModel.bound(I)I [83] -/
def zM_bound_J143 (k38 : Int32 → Int32 → Int32 → zHM → Option (Int32 × zHM)) (v2 : Int32) (v3 : Int32) (v4 : Int32) (v5 : Int32) (w : zHM) : Option (Int32 × zHM) := if v5 = 0 then (am_b (v2 + 1) fun x20 => k38 x20 v3 (v4 + 1) w) else (am_b (v2 + 0) fun x21 => k38 x21 v3 (v4 + 1) w)
set_option maxRecDepth 20000 in
theorem ezM_bound_J143 {d : Nat} (hd : 6 ≤ d) (R : Int32 × zHM) (k38 : Int32 → Int32 → Int32 → zHM → Option (Int32 × zHM)) (hk38 : ∀ (v2 : Int32) (v3 : Int32) (v4 : Int32) (w : zHM), k38 v2 v3 v4 w = some R → am_Rn 83 Xs am_P d 254 (38, [(0, .ref 83), (2, .int v2), (3, .int v3), (4, .int v4)], []) (am_sh, hx, w.1, w.2) (some (.int R.1), (am_sh, hx, R.2.1, R.2.2))) (v2 : Int32) (v3 : Int32) (v4 : Int32) (v5 : Int32) (w : zHM) (hp : zM_bound_J143 k38 v2 v3 v4 v5 w = some R) : am_Rn 83 Xs am_P d 254 (143, [(0, .ref 83), (2, .int v2), (3, .int v3), (4, .int v4), (5, .int v5)], []) (am_sh, hx, w.1, w.2) (some (.int R.1), (am_sh, hx, R.2.1, R.2.2)) := by
  obtain ⟨d, rfl⟩ : ∃ k, d = k + 1 := ⟨d - 1, by omega⟩
  unfold zM_bound_J143 at hp
  refine am_Rn.run am_h254 2 (F' := (146, [(0, .ref 83), (2, .int v2), (3, .int v3), (4, .int v4), (5, .int v5)], [.int v5, .int v2])) (S' := (am_sh, hx, w.1, w.2)) rfl ?_
  refine am_Rn.ite am_h254 (c := v5 = 0) (t := 153) (f := 149) (lv := [(0, .ref 83), (2, .int v2), (3, .int v3), (4, .int v4), (5, .int v5)]) (st := [.int v2]) (S' := (am_sh, hx, w.1, w.2)) rfl hp (fun hc19 hp => ?_) (fun hc19 hp => ?_)
  · obtain ⟨x20, h_x20, hp⟩ := am_b_e hp
    refine am_Rn.run am_h254 5 (F' := (38, [(4, .int (v4 + 1)), (2, .int x20), (0, .ref 83), (3, .int v3), (5, .int v5)], [])) (S' := (am_sh, hx, w.1, w.2)) (by subst h_x20; rfl) ?_
    refine am_Rn.sub [2, 1, 3, 0] rfl rfl ?_
    exact hk38 x20 v3 (v4 + 1) w hp
  · obtain ⟨x21, h_x21, hp⟩ := am_b_e hp
    refine am_Rn.run am_h254 6 (F' := (38, [(4, .int (v4 + 1)), (2, .int x21), (0, .ref 83), (3, .int v3), (5, .int v5)], [])) (S' := (am_sh, hx, w.1, w.2)) (by subst h_x21; rfl) ?_
    refine am_Rn.sub [2, 1, 3, 0] rfl rfl ?_
    exact hk38 x21 v3 (v4 + 1) w hp
def zM_bound_L80 (k38 : Int32 → Int32 → Int32 → zHM → Option (Int32 × zHM)) : Nat → Int32 → Int32 → Int32 → Int32 → Int32 → zHM → Option (Int32 × zHM)
  | 0, _, _, _, _, _, _ => none
  | n + 1, v2, v3, v4, v5, v6, w => if v6 < 6 then (if v5 = 0 then ((zM_holdOf v4 v6 w).bind fun r13 => (zM_canHold (v3 - 1) v4 r13 w).bind fun r14 => if r14.1 = 0 then (zM_bound_L80 k38 n v2 v3 v4 0 (v6 + 1) r14.2) else ((zM_holdOf v4 v6 r14.2).bind fun r16 => (zM_canHold v3 v4 r16 r14.2).bind fun r17 => if r17.1 = 0 then (zM_bound_L80 k38 n v2 v3 v4 0 (v6 + 1) r17.2) else (zM_bound_L80 k38 n v2 v3 v4 1 (v6 + 1) r17.2))) else (zM_bound_J143 k38 v2 v3 v4 v5 w)) else (zM_bound_J143 k38 v2 v3 v4 v5 w)
set_option maxRecDepth 20000 in
theorem ezM_bound_L80 {d : Nat} (hd : 6 ≤ d) (R : Int32 × zHM) (k38 : Int32 → Int32 → Int32 → zHM → Option (Int32 × zHM)) (hk38 : ∀ (v2 : Int32) (v3 : Int32) (v4 : Int32) (w : zHM), k38 v2 v3 v4 w = some R → am_Rn 83 Xs am_P d 254 (38, [(0, .ref 83), (2, .int v2), (3, .int v3), (4, .int v4)], []) (am_sh, hx, w.1, w.2) (some (.int R.1), (am_sh, hx, R.2.1, R.2.2))) : ∀ (n : Nat) (v2 : Int32) (v3 : Int32) (v4 : Int32) (v5 : Int32) (v6 : Int32) (w : zHM), zM_bound_L80 k38 n v2 v3 v4 v5 v6 w = some R → am_Rn 83 Xs am_P d 254 (80, [(0, .ref 83), (2, .int v2), (3, .int v3), (4, .int v4), (5, .int v5), (6, .int v6)], []) (am_sh, hx, w.1, w.2) (some (.int R.1), (am_sh, hx, R.2.1, R.2.2))
  | 0, _, _, _, _, _, _, hp => by cases hp
  | n + 1, v2, v3, v4, v5, v6, w, hp => by
    obtain ⟨d, rfl⟩ : ∃ k, d = k + 1 := ⟨d - 1, by omega⟩
    unfold zM_bound_L80 at hp
    refine am_Rn.run am_h254 2 (F' := (84, [(0, .ref 83), (2, .int v2), (3, .int v3), (4, .int v4), (5, .int v5), (6, .int v6)], [.int 6, .int v6])) (S' := (am_sh, hx, w.1, w.2)) rfl ?_
    refine am_Rn.ite am_h254 (c := v6 < 6) (t := 87) (f := 143) (lv := [(0, .ref 83), (2, .int v2), (3, .int v3), (4, .int v4), (5, .int v5), (6, .int v6)]) (st := []) (S' := (am_sh, hx, w.1, w.2)) rfl hp (fun hc11 hp => ?_) (fun hc11 hp => ?_)
    · refine am_Rn.run am_h254 1 (F' := (89, [(0, .ref 83), (2, .int v2), (3, .int v3), (4, .int v4), (5, .int v5), (6, .int v6)], [.int v5])) (S' := (am_sh, hx, w.1, w.2)) rfl ?_
      refine am_Rn.ite am_h254 (c := v5 = 0) (t := 92) (f := 143) (lv := [(0, .ref 83), (2, .int v2), (3, .int v3), (4, .int v4), (5, .int v5), (6, .int v6)]) (st := []) (S' := (am_sh, hx, w.1, w.2)) rfl hp (fun hc12 hp => ?_) (fun hc12 hp => ?_)
      · refine am_Rn.run am_h254 8 (F' := (103, [(0, .ref 83), (2, .int v2), (3, .int v3), (4, .int v4), (5, .int v5), (6, .int v6)], [.int v6, .int v4, .ref 83, .int v4, .int (v3 - 1), .ref 83])) (S' := (am_sh, hx, w.1, w.2)) rfl ?_
        obtain ⟨r13, h_r13, hp⟩ := am_bind hp
        refine am_Rn.call am_h254 (mj := 231) (As := [.ref 83, .int v4, .int v6]) (F' := (106, [(0, .ref 83), (2, .int v2), (3, .int v3), (4, .int v4), (5, .int v5), (6, .int v6)], [.int v4, .int (v3 - 1), .ref 83])) (M' := am_m231) (r := some (.int r13)) (S1 := (am_sh, hx, w.1, w.2)) rfl am_h231 rfl (ezM_holdOf (by omega) v4 v6 w _ h_r13) ?_
        obtain ⟨r14, h_r14, hp⟩ := am_bind hp
        refine am_Rn.call am_h254 (mj := 232) (As := [.ref 83, .int (v3 - 1), .int v4, .int r13]) (F' := (109, [(0, .ref 83), (2, .int v2), (3, .int v3), (4, .int v4), (5, .int v5), (6, .int v6)], [])) (M' := am_m232) (r := some (.int r14.1)) (S1 := (am_sh, hx, r14.2.1, r14.2.2)) rfl am_h232 rfl (ezM_canHold (by omega) (v3 - 1) v4 r13 w _ h_r14) ?_
        refine am_Rn.ite am_h254 (c := r14.1 = 0) (t := 134) (f := 112) (lv := [(0, .ref 83), (2, .int v2), (3, .int v3), (4, .int v4), (5, .int v5), (6, .int v6)]) (st := []) (S' := (am_sh, hx, r14.2.1, r14.2.2)) rfl hp (fun hc15 hp => ?_) (fun hc15 hp => ?_)
        · refine am_Rn.run am_h254 4 (F' := (80, [(6, .int (v6 + 1)), (5, .int 0), (0, .ref 83), (2, .int v2), (3, .int v3), (4, .int v4)], [])) (S' := (am_sh, hx, r14.2.1, r14.2.2)) rfl ?_
          refine am_Rn.sub [2, 3, 4, 5, 1, 0] rfl rfl ?_
          exact ezM_bound_L80 hd R k38 hk38 n v2 v3 v4 0 (v6 + 1) r14.2 hp
        · refine am_Rn.run am_h254 6 (F' := (121, [(0, .ref 83), (2, .int v2), (3, .int v3), (4, .int v4), (5, .int v5), (6, .int v6)], [.int v6, .int v4, .ref 83, .int v4, .int v3, .ref 83])) (S' := (am_sh, hx, r14.2.1, r14.2.2)) rfl ?_
          obtain ⟨r16, h_r16, hp⟩ := am_bind hp
          refine am_Rn.call am_h254 (mj := 231) (As := [.ref 83, .int v4, .int v6]) (F' := (124, [(0, .ref 83), (2, .int v2), (3, .int v3), (4, .int v4), (5, .int v5), (6, .int v6)], [.int v4, .int v3, .ref 83])) (M' := am_m231) (r := some (.int r16)) (S1 := (am_sh, hx, r14.2.1, r14.2.2)) rfl am_h231 rfl (ezM_holdOf (by omega) v4 v6 r14.2 _ h_r16) ?_
          obtain ⟨r17, h_r17, hp⟩ := am_bind hp
          refine am_Rn.call am_h254 (mj := 232) (As := [.ref 83, .int v3, .int v4, .int r16]) (F' := (127, [(0, .ref 83), (2, .int v2), (3, .int v3), (4, .int v4), (5, .int v5), (6, .int v6)], [])) (M' := am_m232) (r := some (.int r17.1)) (S1 := (am_sh, hx, r17.2.1, r17.2.2)) rfl am_h232 rfl (ezM_canHold (by omega) v3 v4 r16 r14.2 _ h_r17) ?_
          refine am_Rn.ite am_h254 (c := r17.1 = 0) (t := 134) (f := 130) (lv := [(0, .ref 83), (2, .int v2), (3, .int v3), (4, .int v4), (5, .int v5), (6, .int v6)]) (st := []) (S' := (am_sh, hx, r17.2.1, r17.2.2)) rfl hp (fun hc18 hp => ?_) (fun hc18 hp => ?_)
          · refine am_Rn.run am_h254 4 (F' := (80, [(6, .int (v6 + 1)), (5, .int 0), (0, .ref 83), (2, .int v2), (3, .int v3), (4, .int v4)], [])) (S' := (am_sh, hx, r17.2.1, r17.2.2)) rfl ?_
            refine am_Rn.sub [2, 3, 4, 5, 1, 0] rfl rfl ?_
            exact ezM_bound_L80 hd R k38 hk38 n v2 v3 v4 0 (v6 + 1) r17.2 hp
          · refine am_Rn.run am_h254 5 (F' := (80, [(6, .int (v6 + 1)), (5, .int 1), (0, .ref 83), (2, .int v2), (3, .int v3), (4, .int v4)], [])) (S' := (am_sh, hx, r17.2.1, r17.2.2)) rfl ?_
            refine am_Rn.sub [2, 3, 4, 5, 1, 0] rfl rfl ?_
            exact ezM_bound_L80 hd R k38 hk38 n v2 v3 v4 1 (v6 + 1) r17.2 hp
      · refine am_Rn.sub [0, 1, 2, 3, 4] rfl rfl ?_
        exact ezM_bound_J143 hd R k38 hk38 v2 v3 v4 v5 w hp
    · refine am_Rn.sub [0, 1, 2, 3, 4] rfl rfl ?_
      exact ezM_bound_J143 hd R k38 hk38 v2 v3 v4 v5 w hp
def zM_bound_L38 (k24 : Int32 → Int32 → zHM → Option (Int32 × zHM)) : Nat → Int32 → Int32 → Int32 → zHM → Option (Int32 × zHM)
  | 0, _, _, _, _ => none
  | n + 1, v2, v3, v4, w => if v4 < (w.1 84 1) then ((zM_isThere v3 v4 w).bind fun r7 => if r7 = 0 then (zM_bound_L38 k24 n v2 v3 (v4 + 1) w) else ((zM_isThere (v3 - 1) v4 w).bind fun r9 => if r9 = 0 then (zM_bound_L38 k24 n v2 v3 (v4 + 1) w) else (zM_bound_L80 (fun v2 v3 v4 w => zM_bound_L38 k24 n v2 v3 v4 w) am_N v2 v3 v4 0 0 w))) else (k24 v2 (v3 + 1) w)
set_option maxRecDepth 20000 in
theorem ezM_bound_L38 {d : Nat} (hd : 6 ≤ d) (R : Int32 × zHM) (k24 : Int32 → Int32 → zHM → Option (Int32 × zHM)) (hk24 : ∀ (v2 : Int32) (v3 : Int32) (w : zHM), k24 v2 v3 w = some R → am_Rn 83 Xs am_P d 254 (24, [(0, .ref 83), (2, .int v2), (3, .int v3)], []) (am_sh, hx, w.1, w.2) (some (.int R.1), (am_sh, hx, R.2.1, R.2.2))) : ∀ (n : Nat) (v2 : Int32) (v3 : Int32) (v4 : Int32) (w : zHM), zM_bound_L38 k24 n v2 v3 v4 w = some R → am_Rn 83 Xs am_P d 254 (38, [(0, .ref 83), (2, .int v2), (3, .int v3), (4, .int v4)], []) (am_sh, hx, w.1, w.2) (some (.int R.1), (am_sh, hx, R.2.1, R.2.2))
  | 0, _, _, _, _, hp => by cases hp
  | n + 1, v2, v3, v4, w, hp => by
    obtain ⟨d, rfl⟩ : ∃ k, d = k + 1 := ⟨d - 1, by omega⟩
    unfold zM_bound_L38 at hp
    refine am_Rn.run am_h254 5 (F' := (46, [(0, .ref 83), (2, .int v2), (3, .int v3), (4, .int v4)], [.int (w.1 84 1), .int v4])) (S' := (am_sh, hx, w.1, w.2)) rfl ?_
    refine am_Rn.ite am_h254 (c := v4 < (w.1 84 1)) (t := 49) (f := 162) (lv := [(0, .ref 83), (2, .int v2), (3, .int v3), (4, .int v4)]) (st := []) (S' := (am_sh, hx, w.1, w.2)) rfl hp (fun hc6 hp => ?_) (fun hc6 hp => ?_)
    · refine am_Rn.run am_h254 3 (F' := (53, [(0, .ref 83), (2, .int v2), (3, .int v3), (4, .int v4)], [.int v4, .int v3, .ref 83])) (S' := (am_sh, hx, w.1, w.2)) rfl ?_
      obtain ⟨r7, h_r7, hp⟩ := am_bind hp
      refine am_Rn.call am_h254 (mj := 230) (As := [.ref 83, .int v3, .int v4]) (F' := (56, [(0, .ref 83), (2, .int v2), (3, .int v3), (4, .int v4)], [])) (M' := am_m230) (r := some (.int r7)) (S1 := (am_sh, hx, w.1, w.2)) rfl am_h230 rfl (ezM_isThere (by omega) v3 v4 w _ h_r7) ?_
      refine am_Rn.ite am_h254 (c := r7 = 0) (t := 156) (f := 59) (lv := [(0, .ref 83), (2, .int v2), (3, .int v3), (4, .int v4)]) (st := []) (S' := (am_sh, hx, w.1, w.2)) rfl hp (fun hc8 hp => ?_) (fun hc8 hp => ?_)
      · refine am_Rn.run am_h254 2 (F' := (38, [(4, .int (v4 + 1)), (0, .ref 83), (2, .int v2), (3, .int v3)], [])) (S' := (am_sh, hx, w.1, w.2)) rfl ?_
        refine am_Rn.sub [1, 2, 3, 0] rfl rfl ?_
        exact ezM_bound_L38 hd R k24 hk24 n v2 v3 (v4 + 1) w hp
      · refine am_Rn.run am_h254 5 (F' := (65, [(0, .ref 83), (2, .int v2), (3, .int v3), (4, .int v4)], [.int v4, .int (v3 - 1), .ref 83])) (S' := (am_sh, hx, w.1, w.2)) rfl ?_
        obtain ⟨r9, h_r9, hp⟩ := am_bind hp
        refine am_Rn.call am_h254 (mj := 230) (As := [.ref 83, .int (v3 - 1), .int v4]) (F' := (68, [(0, .ref 83), (2, .int v2), (3, .int v3), (4, .int v4)], [])) (M' := am_m230) (r := some (.int r9)) (S1 := (am_sh, hx, w.1, w.2)) rfl am_h230 rfl (ezM_isThere (by omega) (v3 - 1) v4 w _ h_r9) ?_
        refine am_Rn.ite am_h254 (c := r9 = 0) (t := 71) (f := 74) (lv := [(0, .ref 83), (2, .int v2), (3, .int v3), (4, .int v4)]) (st := []) (S' := (am_sh, hx, w.1, w.2)) rfl hp (fun hc10 hp => ?_) (fun hc10 hp => ?_)
        · refine am_Rn.run am_h254 3 (F' := (38, [(4, .int (v4 + 1)), (0, .ref 83), (2, .int v2), (3, .int v3)], [])) (S' := (am_sh, hx, w.1, w.2)) rfl ?_
          refine am_Rn.sub [1, 2, 3, 0] rfl rfl ?_
          exact ezM_bound_L38 hd R k24 hk24 n v2 v3 (v4 + 1) w hp
        · refine am_Rn.run am_h254 4 (F' := (80, [(6, .int 0), (5, .int 0), (0, .ref 83), (2, .int v2), (3, .int v3), (4, .int v4)], [])) (S' := (am_sh, hx, w.1, w.2)) rfl ?_
          refine am_Rn.sub [2, 3, 4, 5, 1, 0] rfl rfl ?_
          exact ezM_bound_L80 hd R (fun v2 v3 v4 w => zM_bound_L38 k24 n v2 v3 v4 w) (fun v2 v3 v4 w hp => ezM_bound_L38 hd R k24 hk24 n v2 v3 v4 w hp) am_N v2 v3 v4 0 0 w hp
    · refine am_Rn.run am_h254 2 (F' := (24, [(3, .int (v3 + 1)), (0, .ref 83), (2, .int v2), (4, .int v4)], [])) (S' := (am_sh, hx, w.1, w.2)) rfl ?_
      refine am_Rn.sub [1, 2, 0] rfl rfl ?_
      exact hk24 v2 (v3 + 1) w hp
def zM_bound_L24 : Nat → Int32 → Int32 → zHM → Option (Int32 × zHM)
  | 0, _, _, _ => none
  | n + 1, v2, v3, w => if v3 < (w.1 84 6) then (zM_bound_L38 (fun v2 v3 w => zM_bound_L24 n v2 v3 w) am_N v2 v3 0 w) else (some ((v2, w)))
set_option maxRecDepth 20000 in
theorem ezM_bound_L24 {d : Nat} (hd : 6 ≤ d) (R : Int32 × zHM) : ∀ (n : Nat) (v2 : Int32) (v3 : Int32) (w : zHM), zM_bound_L24 n v2 v3 w = some R → am_Rn 83 Xs am_P d 254 (24, [(0, .ref 83), (2, .int v2), (3, .int v3)], []) (am_sh, hx, w.1, w.2) (some (.int R.1), (am_sh, hx, R.2.1, R.2.2))
  | 0, _, _, _, hp => by cases hp
  | n + 1, v2, v3, w, hp => by
    obtain ⟨d, rfl⟩ : ∃ k, d = k + 1 := ⟨d - 1, by omega⟩
    unfold zM_bound_L24 at hp
    refine am_Rn.run am_h254 5 (F' := (32, [(0, .ref 83), (2, .int v2), (3, .int v3)], [.int (w.1 84 6), .int v3])) (S' := (am_sh, hx, w.1, w.2)) rfl ?_
    refine am_Rn.ite am_h254 (c := v3 < (w.1 84 6)) (t := 35) (f := 168) (lv := [(0, .ref 83), (2, .int v2), (3, .int v3)]) (st := []) (S' := (am_sh, hx, w.1, w.2)) rfl hp (fun hc5 hp => ?_) (fun hc5 hp => ?_)
    · refine am_Rn.run am_h254 2 (F' := (38, [(4, .int 0), (0, .ref 83), (2, .int v2), (3, .int v3)], [])) (S' := (am_sh, hx, w.1, w.2)) rfl ?_
      refine am_Rn.sub [1, 2, 3, 0] rfl rfl ?_
      exact ezM_bound_L38 hd R (fun v2 v3 w => zM_bound_L24 n v2 v3 w) (fun v2 v3 w hp => ezM_bound_L24 hd R n v2 v3 w hp) am_N v2 v3 0 w hp
    · refine am_Rn.run am_h254 1 (F' := (169, [(0, .ref 83), (2, .int v2), (3, .int v3)], [.int v2])) (S' := (am_sh, hx, w.1, w.2)) rfl ?_
      cases hp
      exact am_Rn.ret am_h254 rfl
def zM_bound (v1 : Int32) (w : zHM) : Option (Int32 × zHM) := am_b (zM_isSet v1 w) fun r1 => if r1 = 0 then (some (((-1), w))) else (am_b ((va_up w.1 83 (upd (w.1 83) 30 v1), w.2)) fun w3 => am_b ((va_up w3.1 83 (upd (w3.1 83) 29 0), w3.2)) fun w4 => zM_bound_L24 am_N 0 1 w4)
set_option maxRecDepth 20000 in
theorem ezM_bound {d : Nat} (hd : 6 ≤ d) (v1 : Int32) (w : zHM) (R : Int32 × zHM) (hp : zM_bound v1 w = some R) : am_Ev 83 Xs am_P d 254 [.ref 83, .int v1] (am_sh, hx, w.1, w.2) (some (.int R.1), (am_sh, hx, R.2.1, R.2.2)) := by
  obtain ⟨d, rfl⟩ : ∃ k, d = k + 1 := ⟨d - 1, by omega⟩
  unfold zM_bound at hp
  show am_Rn 83 Xs am_P _ 254 (0, [(0, .ref 83), (1, .int v1)], []) _ _
  refine am_Rn.run am_h254 2 (F' := (2, [(0, .ref 83), (1, .int v1)], [.int v1, .ref 83])) (S' := (am_sh, hx, w.1, w.2)) rfl ?_
  obtain ⟨r1, h_r1, hp⟩ := am_b_e hp
  refine am_Rn.call am_h254 (mj := 245) (As := [.ref 83, .int v1]) (F' := (5, [(0, .ref 83), (1, .int v1)], [])) (M' := am_m245) (r := some (.int r1)) (S1 := (am_sh, hx, w.1, w.2)) rfl am_h245 rfl (by subst h_r1; exact (ezM_isSet (by omega) v1 w)) ?_
  refine am_Rn.ite am_h254 (c := r1 = 0) (t := 8) (f := 10) (lv := [(0, .ref 83), (1, .int v1)]) (st := []) (S' := (am_sh, hx, w.1, w.2)) rfl hp (fun hc2 hp => ?_) (fun hc2 hp => ?_)
  · refine am_Rn.run am_h254 1 (F' := (9, [(0, .ref 83), (1, .int v1)], [.int (-1)])) (S' := (am_sh, hx, w.1, w.2)) rfl ?_
    cases hp
    exact am_Rn.ret am_h254 rfl
  · obtain ⟨w3, h_w3, hp⟩ := am_b_e hp
    obtain ⟨w4, h_w4, hp⟩ := am_b_e hp
    refine am_Rn.run am_h254 10 (F' := (24, [(3, .int 1), (2, .int 0), (0, .ref 83), (1, .int v1)], [])) (S' := (am_sh, hx, w4.1, w4.2)) (by subst h_w3; subst h_w4; rfl) ?_
    refine am_Rn.sub [2, 1, 0] rfl rfl ?_
    exact ezM_bound_L24 hd R am_N 0 1 w4 hp
/-- SixHandsModel.sees(II)I [83] -/
def zM_sees_L73 (k23 : Int32 → Int32 → Int32 → Int32 → zHM → Option (Int32 × zHM)) : Nat → Int32 → Int32 → Int32 → Int32 → Int32 → zHM → Option (Int32 × zHM)
  | 0, _, _, _, _, _, _ => none
  | n + 1, v1, v2, v3, v4, v5, w => if v5 < (w.1 84 1) then ((zM_placeOf v1 v5 w).bind fun r12 => (zM_placeOf v1 v4 w).bind fun r13 => if r12 = r13 then (am_b ((va_up w.1 89 (upd (w.1 89) 9 ((w.1 89 9) + 1)), w.2)) fun w15 => zM_sees_L73 k23 n v1 v2 v3 v4 (v5 + 1) w15) else (am_b ((va_up w.1 89 (upd (w.1 89) 9 ((w.1 89 9) + 0)), w.2)) fun w16 => zM_sees_L73 k23 n v1 v2 v3 v4 (v5 + 1) w16)) else ((zM_isSo 2 w).bind fun r17 => if r17.1 = 0 then (am_b (v3 ||| 0) fun x19 => k23 v1 v2 x19 (v4 + 1) r17.2) else (am_b (v3 ||| ((1 : Int32) <<< (v4 &&& 31))) fun x20 => k23 v1 v2 x20 (v4 + 1) r17.2))
set_option maxRecDepth 20000 in
theorem ezM_sees_L73 {d : Nat} (hd : 4 ≤ d) (R : Int32 × zHM) (k23 : Int32 → Int32 → Int32 → Int32 → zHM → Option (Int32 × zHM)) (hk23 : ∀ (v1 : Int32) (v2 : Int32) (v3 : Int32) (v4 : Int32) (w : zHM), k23 v1 v2 v3 v4 w = some R → am_Rn 83 Xs am_P d 255 (23, [(0, .ref 83), (1, .int v1), (2, .int v2), (3, .int v3), (4, .int v4)], []) (am_sh, hx, w.1, w.2) (some (.int R.1), (am_sh, hx, R.2.1, R.2.2))) : ∀ (n : Nat) (v1 : Int32) (v2 : Int32) (v3 : Int32) (v4 : Int32) (v5 : Int32) (w : zHM), zM_sees_L73 k23 n v1 v2 v3 v4 v5 w = some R → am_Rn 83 Xs am_P d 255 (73, [(0, .ref 83), (1, .int v1), (2, .int v2), (3, .int v3), (4, .int v4), (5, .int v5)], []) (am_sh, hx, w.1, w.2) (some (.int R.1), (am_sh, hx, R.2.1, R.2.2))
  | 0, _, _, _, _, _, _, hp => by cases hp
  | n + 1, v1, v2, v3, v4, v5, w, hp => by
    obtain ⟨d, rfl⟩ : ∃ k, d = k + 1 := ⟨d - 1, by omega⟩
    unfold zM_sees_L73 at hp
    refine am_Rn.run am_h255 5 (F' := (81, [(0, .ref 83), (1, .int v1), (2, .int v2), (3, .int v3), (4, .int v4), (5, .int v5)], [.int (w.1 84 1), .int v5])) (S' := (am_sh, hx, w.1, w.2)) rfl ?_
    refine am_Rn.ite am_h255 (c := v5 < (w.1 84 1)) (t := 84) (f := 122) (lv := [(0, .ref 83), (1, .int v1), (2, .int v2), (3, .int v3), (4, .int v4), (5, .int v5)]) (st := []) (S' := (am_sh, hx, w.1, w.2)) rfl hp (fun hc11 hp => ?_) (fun hc11 hp => ?_)
    · refine am_Rn.run am_h255 8 (F' := (96, [(0, .ref 83), (1, .int v1), (2, .int v2), (3, .int v3), (4, .int v4), (5, .int v5)], [.int v5, .int v1, .ref 83, .int (w.1 89 9), .int 9, .ref 89])) (S' := (am_sh, hx, w.1, w.2)) rfl ?_
      obtain ⟨r12, h_r12, hp⟩ := am_bind hp
      refine am_Rn.call am_h255 (mj := 159) (As := [.ref 83, .int v1, .int v5]) (F' := (99, [(0, .ref 83), (1, .int v1), (2, .int v2), (3, .int v3), (4, .int v4), (5, .int v5)], [.int (w.1 89 9), .int 9, .ref 89])) (M' := am_m159) (r := some (.int r12)) (S1 := (am_sh, hx, w.1, w.2)) rfl am_h159 rfl (ezM_placeOf (by omega) v1 v5 w _ h_r12) ?_
      refine am_Rn.run am_h255 3 (F' := (103, [(0, .ref 83), (1, .int v1), (2, .int v2), (3, .int v3), (4, .int v4), (5, .int v5)], [.int v4, .int v1, .ref 83, .int r12, .int (w.1 89 9), .int 9, .ref 89])) (S' := (am_sh, hx, w.1, w.2)) rfl ?_
      obtain ⟨r13, h_r13, hp⟩ := am_bind hp
      refine am_Rn.call am_h255 (mj := 159) (As := [.ref 83, .int v1, .int v4]) (F' := (106, [(0, .ref 83), (1, .int v1), (2, .int v2), (3, .int v3), (4, .int v4), (5, .int v5)], [.int r12, .int (w.1 89 9), .int 9, .ref 89])) (M' := am_m159) (r := some (.int r13)) (S1 := (am_sh, hx, w.1, w.2)) rfl am_h159 rfl (ezM_placeOf (by omega) v1 v4 w _ h_r13) ?_
      refine am_Rn.ite am_h255 (c := r12 = r13) (t := 109) (f := 113) (lv := [(0, .ref 83), (1, .int v1), (2, .int v2), (3, .int v3), (4, .int v4), (5, .int v5)]) (st := [.int (w.1 89 9), .int 9, .ref 89]) (S' := (am_sh, hx, w.1, w.2)) rfl hp (fun hc14 hp => ?_) (fun hc14 hp => ?_)
      · obtain ⟨w15, h_w15, hp⟩ := am_b_e hp
        refine am_Rn.run am_h255 6 (F' := (73, [(5, .int (v5 + 1)), (0, .ref 83), (1, .int v1), (2, .int v2), (3, .int v3), (4, .int v4)], [])) (S' := (am_sh, hx, w15.1, w15.2)) (by subst h_w15; rfl) ?_
        refine am_Rn.sub [1, 2, 3, 4, 5, 0] rfl rfl ?_
        exact ezM_sees_L73 hd R k23 hk23 n v1 v2 v3 v4 (v5 + 1) w15 hp
      · obtain ⟨w16, h_w16, hp⟩ := am_b_e hp
        refine am_Rn.run am_h255 5 (F' := (73, [(5, .int (v5 + 1)), (0, .ref 83), (1, .int v1), (2, .int v2), (3, .int v3), (4, .int v4)], [])) (S' := (am_sh, hx, w16.1, w16.2)) (by subst h_w16; rfl) ?_
        refine am_Rn.sub [1, 2, 3, 4, 5, 0] rfl rfl ?_
        exact ezM_sees_L73 hd R k23 hk23 n v1 v2 v3 v4 (v5 + 1) w16 hp
    · refine am_Rn.run am_h255 3 (F' := (125, [(0, .ref 83), (1, .int v1), (2, .int v2), (3, .int v3), (4, .int v4), (5, .int v5)], [.int 2, .ref 83, .int v3])) (S' := (am_sh, hx, w.1, w.2)) rfl ?_
      obtain ⟨r17, h_r17, hp⟩ := am_bind hp
      refine am_Rn.call am_h255 (mj := 212) (As := [.ref 83, .int 2]) (F' := (128, [(0, .ref 83), (1, .int v1), (2, .int v2), (3, .int v3), (4, .int v4), (5, .int v5)], [.int v3])) (M' := am_m212) (r := some (.int r17.1)) (S1 := (am_sh, hx, r17.2.1, r17.2.2)) rfl am_h212 rfl (ezM_isSo (by omega) 2 w _ h_r17) ?_
      refine am_Rn.ite am_h255 (c := r17.1 = 0) (t := 138) (f := 131) (lv := [(0, .ref 83), (1, .int v1), (2, .int v2), (3, .int v3), (4, .int v4), (5, .int v5)]) (st := [.int v3]) (S' := (am_sh, hx, r17.2.1, r17.2.2)) rfl hp (fun hc18 hp => ?_) (fun hc18 hp => ?_)
      · obtain ⟨x19, h_x19, hp⟩ := am_b_e hp
        refine am_Rn.run am_h255 5 (F' := (23, [(4, .int (v4 + 1)), (3, .int x19), (0, .ref 83), (1, .int v1), (2, .int v2), (5, .int v5)], [])) (S' := (am_sh, hx, r17.2.1, r17.2.2)) (by subst h_x19; rfl) ?_
        refine am_Rn.sub [2, 3, 4, 1, 0] rfl rfl ?_
        exact hk23 v1 v2 x19 (v4 + 1) r17.2 hp
      · obtain ⟨x20, h_x20, hp⟩ := am_b_e hp
        refine am_Rn.run am_h255 8 (F' := (23, [(4, .int (v4 + 1)), (3, .int x20), (0, .ref 83), (1, .int v1), (2, .int v2), (5, .int v5)], [])) (S' := (am_sh, hx, r17.2.1, r17.2.2)) (by subst h_x20; rfl) ?_
        refine am_Rn.sub [2, 3, 4, 1, 0] rfl rfl ?_
        exact hk23 v1 v2 x20 (v4 + 1) r17.2 hp
def zM_sees_L23 : Nat → Int32 → Int32 → Int32 → Int32 → zHM → Option (Int32 × zHM)
  | 0, _, _, _, _, _ => none
  | n + 1, v1, v2, v3, v4, w => if v4 < (w.1 84 1) then ((zM_placeOf v1 v4 w).bind fun r6 => if r6 < 0 then (zM_sees_L23 n v1 v2 v3 (v4 + 1) w) else ((zM_name v1 v4 w).bind fun r8 => am_b ((va_up r8.1 89 (upd (r8.1 89) 8 v2), r8.2)) fun w9 => am_b ((va_up w9.1 89 (upd (w9.1 89) 9 0), w9.2)) fun w10 => zM_sees_L73 (fun v1 v2 v3 v4 w => zM_sees_L23 n v1 v2 v3 v4 w) am_N v1 v2 v3 v4 0 w10)) else (some ((v3, w)))
set_option maxRecDepth 20000 in
theorem ezM_sees_L23 {d : Nat} (hd : 4 ≤ d) (R : Int32 × zHM) : ∀ (n : Nat) (v1 : Int32) (v2 : Int32) (v3 : Int32) (v4 : Int32) (w : zHM), zM_sees_L23 n v1 v2 v3 v4 w = some R → am_Rn 83 Xs am_P d 255 (23, [(0, .ref 83), (1, .int v1), (2, .int v2), (3, .int v3), (4, .int v4)], []) (am_sh, hx, w.1, w.2) (some (.int R.1), (am_sh, hx, R.2.1, R.2.2))
  | 0, _, _, _, _, _, hp => by cases hp
  | n + 1, v1, v2, v3, v4, w, hp => by
    obtain ⟨d, rfl⟩ : ∃ k, d = k + 1 := ⟨d - 1, by omega⟩
    unfold zM_sees_L23 at hp
    refine am_Rn.run am_h255 5 (F' := (31, [(0, .ref 83), (1, .int v1), (2, .int v2), (3, .int v3), (4, .int v4)], [.int (w.1 84 1), .int v4])) (S' := (am_sh, hx, w.1, w.2)) rfl ?_
    refine am_Rn.ite am_h255 (c := v4 < (w.1 84 1)) (t := 34) (f := 147) (lv := [(0, .ref 83), (1, .int v1), (2, .int v2), (3, .int v3), (4, .int v4)]) (st := []) (S' := (am_sh, hx, w.1, w.2)) rfl hp (fun hc5 hp => ?_) (fun hc5 hp => ?_)
    · refine am_Rn.run am_h255 3 (F' := (38, [(0, .ref 83), (1, .int v1), (2, .int v2), (3, .int v3), (4, .int v4)], [.int v4, .int v1, .ref 83])) (S' := (am_sh, hx, w.1, w.2)) rfl ?_
      obtain ⟨r6, h_r6, hp⟩ := am_bind hp
      refine am_Rn.call am_h255 (mj := 159) (As := [.ref 83, .int v1, .int v4]) (F' := (41, [(0, .ref 83), (1, .int v1), (2, .int v2), (3, .int v3), (4, .int v4)], [])) (M' := am_m159) (r := some (.int r6)) (S1 := (am_sh, hx, w.1, w.2)) rfl am_h159 rfl (ezM_placeOf (by omega) v1 v4 w _ h_r6) ?_
      refine am_Rn.ite am_h255 (c := r6 < 0) (t := 44) (f := 47) (lv := [(0, .ref 83), (1, .int v1), (2, .int v2), (3, .int v3), (4, .int v4)]) (st := []) (S' := (am_sh, hx, w.1, w.2)) rfl hp (fun hc7 hp => ?_) (fun hc7 hp => ?_)
      · refine am_Rn.run am_h255 3 (F' := (23, [(4, .int (v4 + 1)), (0, .ref 83), (1, .int v1), (2, .int v2), (3, .int v3)], [])) (S' := (am_sh, hx, w.1, w.2)) rfl ?_
        refine am_Rn.sub [1, 2, 3, 4, 0] rfl rfl ?_
        exact ezM_sees_L23 hd R n v1 v2 v3 (v4 + 1) w hp
      · refine am_Rn.run am_h255 3 (F' := (51, [(0, .ref 83), (1, .int v1), (2, .int v2), (3, .int v3), (4, .int v4)], [.int v4, .int v1, .ref 83])) (S' := (am_sh, hx, w.1, w.2)) rfl ?_
        obtain ⟨r8, h_r8, hp⟩ := am_bind hp
        refine am_Rn.call am_h255 (mj := 213) (As := [.ref 83, .int v1, .int v4]) (F' := (54, [(0, .ref 83), (1, .int v1), (2, .int v2), (3, .int v3), (4, .int v4)], [])) (M' := am_m213) (r := none) (S1 := (am_sh, hx, r8.1, r8.2)) rfl am_h213 rfl (ezM_name (by omega) v1 v4 w _ h_r8) ?_
        obtain ⟨w9, h_w9, hp⟩ := am_b_e hp
        obtain ⟨w10, h_w10, hp⟩ := am_b_e hp
        refine am_Rn.run am_h255 12 (F' := (73, [(5, .int 0), (0, .ref 83), (1, .int v1), (2, .int v2), (3, .int v3), (4, .int v4)], [])) (S' := (am_sh, hx, w10.1, w10.2)) (by subst h_w9; subst h_w10; rfl) ?_
        refine am_Rn.sub [1, 2, 3, 4, 5, 0] rfl rfl ?_
        exact ezM_sees_L73 hd R (fun v1 v2 v3 v4 w => zM_sees_L23 n v1 v2 v3 v4 w) (fun v1 v2 v3 v4 w hp => ezM_sees_L23 hd R n v1 v2 v3 v4 w hp) am_N v1 v2 v3 v4 0 w10 hp
    · refine am_Rn.run am_h255 1 (F' := (148, [(0, .ref 83), (1, .int v1), (2, .int v2), (3, .int v3), (4, .int v4)], [.int v3])) (S' := (am_sh, hx, w.1, w.2)) rfl ?_
      cases hp
      exact am_Rn.ret am_h255 rfl
def zM_sees (v1 : Int32) (v2 : Int32) (w : zHM) : Option (Int32 × zHM) := am_b (zM_isBeat v1 w) fun r1 => if r1 = 0 then (some (((-1), w))) else (am_b (zM_isPlace v2 w) fun r3 => if r3 = 0 then (some (((-1), w))) else (zM_sees_L23 am_N v1 v2 0 0 w))
set_option maxRecDepth 20000 in
theorem ezM_sees {d : Nat} (hd : 4 ≤ d) (v1 : Int32) (v2 : Int32) (w : zHM) (R : Int32 × zHM) (hp : zM_sees v1 v2 w = some R) : am_Ev 83 Xs am_P d 255 [.ref 83, .int v1, .int v2] (am_sh, hx, w.1, w.2) (some (.int R.1), (am_sh, hx, R.2.1, R.2.2)) := by
  obtain ⟨d, rfl⟩ : ∃ k, d = k + 1 := ⟨d - 1, by omega⟩
  unfold zM_sees at hp
  show am_Rn 83 Xs am_P _ 255 (0, [(0, .ref 83), (1, .int v1), (2, .int v2)], []) _ _
  refine am_Rn.run am_h255 2 (F' := (2, [(0, .ref 83), (1, .int v1), (2, .int v2)], [.int v1, .ref 83])) (S' := (am_sh, hx, w.1, w.2)) rfl ?_
  obtain ⟨r1, h_r1, hp⟩ := am_b_e hp
  refine am_Rn.call am_h255 (mj := 155) (As := [.ref 83, .int v1]) (F' := (5, [(0, .ref 83), (1, .int v1), (2, .int v2)], [])) (M' := am_m155) (r := some (.int r1)) (S1 := (am_sh, hx, w.1, w.2)) rfl am_h155 rfl (by subst h_r1; exact (ezM_isBeat (by omega) v1 w)) ?_
  refine am_Rn.ite am_h255 (c := r1 = 0) (t := 16) (f := 8) (lv := [(0, .ref 83), (1, .int v1), (2, .int v2)]) (st := []) (S' := (am_sh, hx, w.1, w.2)) rfl hp (fun hc2 hp => ?_) (fun hc2 hp => ?_)
  · refine am_Rn.run am_h255 1 (F' := (17, [(0, .ref 83), (1, .int v1), (2, .int v2)], [.int (-1)])) (S' := (am_sh, hx, w.1, w.2)) rfl ?_
    cases hp
    exact am_Rn.ret am_h255 rfl
  · refine am_Rn.run am_h255 2 (F' := (10, [(0, .ref 83), (1, .int v1), (2, .int v2)], [.int v2, .ref 83])) (S' := (am_sh, hx, w.1, w.2)) rfl ?_
    obtain ⟨r3, h_r3, hp⟩ := am_b_e hp
    refine am_Rn.call am_h255 (mj := 153) (As := [.ref 83, .int v2]) (F' := (13, [(0, .ref 83), (1, .int v1), (2, .int v2)], [])) (M' := am_m153) (r := some (.int r3)) (S1 := (am_sh, hx, w.1, w.2)) rfl am_h153 rfl (by subst h_r3; exact (ezM_isPlace (by omega) v2 w)) ?_
    refine am_Rn.ite am_h255 (c := r3 = 0) (t := 16) (f := 18) (lv := [(0, .ref 83), (1, .int v1), (2, .int v2)]) (st := []) (S' := (am_sh, hx, w.1, w.2)) rfl hp (fun hc4 hp => ?_) (fun hc4 hp => ?_)
    · refine am_Rn.run am_h255 1 (F' := (17, [(0, .ref 83), (1, .int v1), (2, .int v2)], [.int (-1)])) (S' := (am_sh, hx, w.1, w.2)) rfl ?_
      cases hp
      exact am_Rn.ret am_h255 rfl
    · refine am_Rn.run am_h255 4 (F' := (23, [(4, .int 0), (3, .int 0), (0, .ref 83), (1, .int v1), (2, .int v2)], [])) (S' := (am_sh, hx, w.1, w.2)) rfl ?_
      refine am_Rn.sub [2, 3, 4, 1, 0] rfl rfl ?_
      exact ezM_sees_L23 hd R am_N v1 v2 0 0 w hp
/-- SixHandsModel.copy([I[I)V [84, 85] -/
def zM_copy_L2 : Nat → Int32 → zHM → Option (zHM)
  | 0, _, _ => none
  | n + 1, v2, w => if v2 < 350 then (am_ix 350 v2 (am_ix 350 v2 (am_b ((va_up w.1 85 (upd (w.1 85) (v2.toNatClampNeg) (w.1 84 (v2.toNatClampNeg))), w.2)) fun w4 => zM_copy_L2 n (v2 + 1) w4))) else (some w)
set_option maxRecDepth 20000 in
theorem ezM_copy_L2 {d : Nat} (hd : 0 ≤ d) (R : zHM) : ∀ (n : Nat) (v2 : Int32) (w : zHM), zM_copy_L2 n v2 w = some R → am_Rn 83 Xs am_P d 151 (2, [(0, .ref 84), (1, .ref 85), (2, .int v2)], []) (am_sh, hx, w.1, w.2) (none, (am_sh, hx, R.1, R.2))
  | 0, _, _, hp => by cases hp
  | n + 1, v2, w, hp => by
    unfold zM_copy_L2 at hp
    refine am_Rn.run am_h151 2 (F' := (6, [(0, .ref 84), (1, .ref 85), (2, .int v2)], [.int 350, .int v2])) (S' := (am_sh, hx, w.1, w.2)) rfl ?_
    refine am_Rn.ite am_h151 (c := v2 < 350) (t := 9) (f := 21) (lv := [(0, .ref 84), (1, .ref 85), (2, .int v2)]) (st := []) (S' := (am_sh, hx, w.1, w.2)) rfl hp (fun hc1 hp => ?_) (fun hc1 hp => ?_)
    · refine am_Rn.run am_h151 4 (F' := (13, [(0, .ref 84), (1, .ref 85), (2, .int v2)], [.int v2, .ref 84, .int v2, .ref 85])) (S' := (am_sh, hx, w.1, w.2)) rfl ?_
      obtain ⟨hn2, hp⟩ := am_ix_e hp
      refine am_Rn.stepG am_h151 (c := v2 < 0 ∨ 350 ≤ v2.toNatClampNeg) (F' := (14, [(0, .ref 84), (1, .ref 85), (2, .int v2)], [.int (w.1 84 (v2.toNatClampNeg)), .int v2, .ref 85])) (S' := (am_sh, hx, w.1, w.2)) rfl hn2 ?_
      obtain ⟨hn3, hp⟩ := am_ix_e hp
      obtain ⟨w4, h_w4, hp⟩ := am_b_e hp
      refine am_Rn.stepG am_h151 (c := v2 < 0 ∨ 350 ≤ v2.toNatClampNeg) (F' := (15, [(0, .ref 84), (1, .ref 85), (2, .int v2)], [])) (S' := (am_sh, hx, w4.1, w4.2)) (by subst h_w4; rfl) hn3 ?_
      refine am_Rn.run am_h151 2 (F' := (2, [(2, .int (v2 + 1)), (0, .ref 84), (1, .ref 85)], [])) (S' := (am_sh, hx, w4.1, w4.2)) rfl ?_
      refine am_Rn.sub [1, 2, 0] rfl rfl ?_
      exact ezM_copy_L2 hd R n (v2 + 1) w4 hp
    · cases hp
      exact am_Rn.ret am_h151 rfl
def zM_copy (w : zHM) : Option (zHM) := zM_copy_L2 am_N 0 w
set_option maxRecDepth 20000 in
theorem ezM_copy {d : Nat} (hd : 0 ≤ d) (w : zHM) (R : zHM) (hp : zM_copy w = some R) : am_Ev 83 Xs am_P d 151 [.ref 84, .ref 85] (am_sh, hx, w.1, w.2) (none, (am_sh, hx, R.1, R.2)) := by
  unfold zM_copy at hp
  show am_Rn 83 Xs am_P _ 151 (0, [(0, .ref 84), (1, .ref 85)], []) _ _
  refine am_Rn.run am_h151 2 (F' := (2, [(2, .int 0), (0, .ref 84), (1, .ref 85)], [])) (S' := (am_sh, hx, w.1, w.2)) rfl ?_
  refine am_Rn.sub [1, 2, 0] rfl rfl ?_
  exact ezM_copy_L2 hd R am_N 0 w hp
/-- SixHandsModel.image()I [83] -/
def zM_image (w : zHM) : Option (Int32 × zHM) := (zM_copy w).bind fun r1 => some ((r1.1 84 6, r1))
set_option maxRecDepth 20000 in
theorem ezM_image {d : Nat} (hd : 1 ≤ d) (w : zHM) (R : Int32 × zHM) (hp : zM_image w = some R) : am_Ev 83 Xs am_P d 256 [.ref 83] (am_sh, hx, w.1, w.2) (some (.int R.1), (am_sh, hx, R.2.1, R.2.2)) := by
  obtain ⟨d, rfl⟩ : ∃ k, d = k + 1 := ⟨d - 1, by omega⟩
  unfold zM_image at hp
  show am_Rn 83 Xs am_P _ 256 (0, [(0, .ref 83)], []) _ _
  refine am_Rn.run am_h256 4 (F' := (8, [(0, .ref 83)], [.ref 85, .ref 84])) (S' := (am_sh, hx, w.1, w.2)) rfl ?_
  obtain ⟨r1, h_r1, hp⟩ := am_bind hp
  refine am_Rn.call am_h256 (mj := 151) (As := [.ref 84, .ref 85]) (F' := (11, [(0, .ref 83)], [])) (M' := am_m151) (r := none) (S1 := (am_sh, hx, r1.1, r1.2)) rfl am_h151 rfl (ezM_copy (by omega) w _ h_r1) ?_
  refine am_Rn.run am_h256 4 (F' := (18, [(0, .ref 83)], [.int (r1.1 84 6)])) (S' := (am_sh, hx, r1.1, r1.2)) rfl ?_
  cases hp
  exact am_Rn.ret am_h256 rfl
/-- SixHandsModel.copy([I[I)V [85, 84] -/
def zM_copy_2_L2 : Nat → Int32 → zHM → Option (zHM)
  | 0, _, _ => none
  | n + 1, v2, w => if v2 < 350 then (am_ix 350 v2 (am_ix 350 v2 (am_b ((va_up w.1 84 (upd (w.1 84) (v2.toNatClampNeg) (w.1 85 (v2.toNatClampNeg))), w.2)) fun w4 => zM_copy_2_L2 n (v2 + 1) w4))) else (some w)
set_option maxRecDepth 20000 in
theorem ezM_copy_2_L2 {d : Nat} (hd : 0 ≤ d) (R : zHM) : ∀ (n : Nat) (v2 : Int32) (w : zHM), zM_copy_2_L2 n v2 w = some R → am_Rn 83 Xs am_P d 151 (2, [(0, .ref 85), (1, .ref 84), (2, .int v2)], []) (am_sh, hx, w.1, w.2) (none, (am_sh, hx, R.1, R.2))
  | 0, _, _, hp => by cases hp
  | n + 1, v2, w, hp => by
    unfold zM_copy_2_L2 at hp
    refine am_Rn.run am_h151 2 (F' := (6, [(0, .ref 85), (1, .ref 84), (2, .int v2)], [.int 350, .int v2])) (S' := (am_sh, hx, w.1, w.2)) rfl ?_
    refine am_Rn.ite am_h151 (c := v2 < 350) (t := 9) (f := 21) (lv := [(0, .ref 85), (1, .ref 84), (2, .int v2)]) (st := []) (S' := (am_sh, hx, w.1, w.2)) rfl hp (fun hc1 hp => ?_) (fun hc1 hp => ?_)
    · refine am_Rn.run am_h151 4 (F' := (13, [(0, .ref 85), (1, .ref 84), (2, .int v2)], [.int v2, .ref 85, .int v2, .ref 84])) (S' := (am_sh, hx, w.1, w.2)) rfl ?_
      obtain ⟨hn2, hp⟩ := am_ix_e hp
      refine am_Rn.stepG am_h151 (c := v2 < 0 ∨ 350 ≤ v2.toNatClampNeg) (F' := (14, [(0, .ref 85), (1, .ref 84), (2, .int v2)], [.int (w.1 85 (v2.toNatClampNeg)), .int v2, .ref 84])) (S' := (am_sh, hx, w.1, w.2)) rfl hn2 ?_
      obtain ⟨hn3, hp⟩ := am_ix_e hp
      obtain ⟨w4, h_w4, hp⟩ := am_b_e hp
      refine am_Rn.stepG am_h151 (c := v2 < 0 ∨ 350 ≤ v2.toNatClampNeg) (F' := (15, [(0, .ref 85), (1, .ref 84), (2, .int v2)], [])) (S' := (am_sh, hx, w4.1, w4.2)) (by subst h_w4; rfl) hn3 ?_
      refine am_Rn.run am_h151 2 (F' := (2, [(2, .int (v2 + 1)), (0, .ref 85), (1, .ref 84)], [])) (S' := (am_sh, hx, w4.1, w4.2)) rfl ?_
      refine am_Rn.sub [1, 2, 0] rfl rfl ?_
      exact ezM_copy_2_L2 hd R n (v2 + 1) w4 hp
    · cases hp
      exact am_Rn.ret am_h151 rfl
def zM_copy_2 (w : zHM) : Option (zHM) := zM_copy_2_L2 am_N 0 w
set_option maxRecDepth 20000 in
theorem ezM_copy_2 {d : Nat} (hd : 0 ≤ d) (w : zHM) (R : zHM) (hp : zM_copy_2 w = some R) : am_Ev 83 Xs am_P d 151 [.ref 85, .ref 84] (am_sh, hx, w.1, w.2) (none, (am_sh, hx, R.1, R.2)) := by
  unfold zM_copy_2 at hp
  show am_Rn 83 Xs am_P _ 151 (0, [(0, .ref 85), (1, .ref 84)], []) _ _
  refine am_Rn.run am_h151 2 (F' := (2, [(2, .int 0), (0, .ref 85), (1, .ref 84)], [])) (S' := (am_sh, hx, w.1, w.2)) rfl ?_
  refine am_Rn.sub [1, 2, 0] rfl rfl ?_
  exact ezM_copy_2_L2 hd R am_N 0 w hp
/-- SixHandsModel.back()I [83] -/
def zM_back (w : zHM) : Option (Int32 × zHM) := (zM_copy_2 w).bind fun r1 => some ((r1.1 84 6, r1))
set_option maxRecDepth 20000 in
theorem ezM_back {d : Nat} (hd : 1 ≤ d) (w : zHM) (R : Int32 × zHM) (hp : zM_back w = some R) : am_Ev 83 Xs am_P d 257 [.ref 83] (am_sh, hx, w.1, w.2) (some (.int R.1), (am_sh, hx, R.2.1, R.2.2)) := by
  obtain ⟨d, rfl⟩ : ∃ k, d = k + 1 := ⟨d - 1, by omega⟩
  unfold zM_back at hp
  show am_Rn 83 Xs am_P _ 257 (0, [(0, .ref 83)], []) _ _
  refine am_Rn.run am_h257 4 (F' := (8, [(0, .ref 83)], [.ref 84, .ref 85])) (S' := (am_sh, hx, w.1, w.2)) rfl ?_
  obtain ⟨r1, h_r1, hp⟩ := am_bind hp
  refine am_Rn.call am_h257 (mj := 151) (As := [.ref 85, .ref 84]) (F' := (11, [(0, .ref 83)], [])) (M' := am_m151) (r := none) (S1 := (am_sh, hx, r1.1, r1.2)) rfl am_h151 rfl (ezM_copy_2 (by omega) w _ h_r1) ?_
  refine am_Rn.run am_h257 4 (F' := (18, [(0, .ref 83)], [.int (r1.1 84 6)])) (S' := (am_sh, hx, r1.1, r1.2)) rfl ?_
  cases hp
  exact am_Rn.ret am_h257 rfl
/-- SixHandsModel.orderOf(I)I [83] -/
def zM_orderOf_L4 : Nat → Int32 → Int32 → Int32 → zHM → Option (Int32)
  | 0, _, _, _, _ => none
  | n + 1, v1, v2, v3, w => am_b (zM_hands w) fun r1 => if v3 < r1 then (if v3 = v1 then (am_b (v2 + 0) fun x4 => zM_orderOf_L4 n v1 x4 (v3 + 1) w) else ((zM_isAhead v3 v1 w).bind fun r5 => if r5 = 0 then (am_b (v2 + 0) fun x7 => zM_orderOf_L4 n v1 x7 (v3 + 1) w) else (am_b (v2 + 1) fun x8 => zM_orderOf_L4 n v1 x8 (v3 + 1) w))) else (some v2)
set_option maxRecDepth 20000 in
theorem ezM_orderOf_L4 {d : Nat} (hd : 2 ≤ d) (R : Int32) : ∀ (n : Nat) (v1 : Int32) (v2 : Int32) (v3 : Int32) (w : zHM), zM_orderOf_L4 n v1 v2 v3 w = some R → am_Rn 83 Xs am_P d 258 (4, [(0, .ref 83), (1, .int v1), (2, .int v2), (3, .int v3)], []) (am_sh, hx, w.1, w.2) (some (.int R), (am_sh, hx, w.1, w.2))
  | 0, _, _, _, _, hp => by cases hp
  | n + 1, v1, v2, v3, w, hp => by
    obtain ⟨d, rfl⟩ : ∃ k, d = k + 1 := ⟨d - 1, by omega⟩
    unfold zM_orderOf_L4 at hp
    refine am_Rn.run am_h258 2 (F' := (6, [(0, .ref 83), (1, .int v1), (2, .int v2), (3, .int v3)], [.ref 83, .int v3])) (S' := (am_sh, hx, w.1, w.2)) rfl ?_
    obtain ⟨r1, h_r1, hp⟩ := am_b_e hp
    refine am_Rn.call am_h258 (mj := 156) (As := [.ref 83]) (F' := (9, [(0, .ref 83), (1, .int v1), (2, .int v2), (3, .int v3)], [.int v3])) (M' := am_m156) (r := some (.int r1)) (S1 := (am_sh, hx, w.1, w.2)) rfl am_h156 rfl (by subst h_r1; exact (ezM_hands (by omega) w)) ?_
    refine am_Rn.ite am_h258 (c := v3 < r1) (t := 12) (f := 40) (lv := [(0, .ref 83), (1, .int v1), (2, .int v2), (3, .int v3)]) (st := []) (S' := (am_sh, hx, w.1, w.2)) rfl hp (fun hc2 hp => ?_) (fun hc2 hp => ?_)
    · refine am_Rn.run am_h258 3 (F' := (15, [(0, .ref 83), (1, .int v1), (2, .int v2), (3, .int v3)], [.int v1, .int v3, .int v2])) (S' := (am_sh, hx, w.1, w.2)) rfl ?_
      refine am_Rn.ite am_h258 (c := v3 = v1) (t := 31) (f := 18) (lv := [(0, .ref 83), (1, .int v1), (2, .int v2), (3, .int v3)]) (st := [.int v2]) (S' := (am_sh, hx, w.1, w.2)) rfl hp (fun hc3 hp => ?_) (fun hc3 hp => ?_)
      · obtain ⟨x4, h_x4, hp⟩ := am_b_e hp
        refine am_Rn.run am_h258 5 (F' := (4, [(3, .int (v3 + 1)), (2, .int x4), (0, .ref 83), (1, .int v1)], [])) (S' := (am_sh, hx, w.1, w.2)) (by subst h_x4; rfl) ?_
        refine am_Rn.sub [2, 3, 1, 0] rfl rfl ?_
        exact ezM_orderOf_L4 hd R n v1 x4 (v3 + 1) w hp
      · refine am_Rn.run am_h258 3 (F' := (21, [(0, .ref 83), (1, .int v1), (2, .int v2), (3, .int v3)], [.int v1, .int v3, .ref 83, .int v2])) (S' := (am_sh, hx, w.1, w.2)) rfl ?_
        obtain ⟨r5, h_r5, hp⟩ := am_bind hp
        refine am_Rn.call am_h258 (mj := 218) (As := [.ref 83, .int v3, .int v1]) (F' := (24, [(0, .ref 83), (1, .int v1), (2, .int v2), (3, .int v3)], [.int v2])) (M' := am_m218) (r := some (.int r5)) (S1 := (am_sh, hx, w.1, w.2)) rfl am_h218 rfl (ezM_isAhead (by omega) v3 v1 w _ h_r5) ?_
        refine am_Rn.ite am_h258 (c := r5 = 0) (t := 31) (f := 27) (lv := [(0, .ref 83), (1, .int v1), (2, .int v2), (3, .int v3)]) (st := [.int v2]) (S' := (am_sh, hx, w.1, w.2)) rfl hp (fun hc6 hp => ?_) (fun hc6 hp => ?_)
        · obtain ⟨x7, h_x7, hp⟩ := am_b_e hp
          refine am_Rn.run am_h258 5 (F' := (4, [(3, .int (v3 + 1)), (2, .int x7), (0, .ref 83), (1, .int v1)], [])) (S' := (am_sh, hx, w.1, w.2)) (by subst h_x7; rfl) ?_
          refine am_Rn.sub [2, 3, 1, 0] rfl rfl ?_
          exact ezM_orderOf_L4 hd R n v1 x7 (v3 + 1) w hp
        · obtain ⟨x8, h_x8, hp⟩ := am_b_e hp
          refine am_Rn.run am_h258 6 (F' := (4, [(3, .int (v3 + 1)), (2, .int x8), (0, .ref 83), (1, .int v1)], [])) (S' := (am_sh, hx, w.1, w.2)) (by subst h_x8; rfl) ?_
          refine am_Rn.sub [2, 3, 1, 0] rfl rfl ?_
          exact ezM_orderOf_L4 hd R n v1 x8 (v3 + 1) w hp
    · refine am_Rn.run am_h258 1 (F' := (41, [(0, .ref 83), (1, .int v1), (2, .int v2), (3, .int v3)], [.int v2])) (S' := (am_sh, hx, w.1, w.2)) rfl ?_
      cases hp
      exact am_Rn.ret am_h258 rfl
def zM_orderOf (v1 : Int32) (w : zHM) : Option (Int32) := zM_orderOf_L4 am_N v1 0 0 w
set_option maxRecDepth 20000 in
theorem ezM_orderOf {d : Nat} (hd : 2 ≤ d) (v1 : Int32) (w : zHM) (R : Int32) (hp : zM_orderOf v1 w = some R) : am_Ev 83 Xs am_P d 258 [.ref 83, .int v1] (am_sh, hx, w.1, w.2) (some (.int R), (am_sh, hx, w.1, w.2)) := by
  obtain ⟨d, rfl⟩ : ∃ k, d = k + 1 := ⟨d - 1, by omega⟩
  unfold zM_orderOf at hp
  show am_Rn 83 Xs am_P _ 258 (0, [(0, .ref 83), (1, .int v1)], []) _ _
  refine am_Rn.run am_h258 4 (F' := (4, [(3, .int 0), (2, .int 0), (0, .ref 83), (1, .int v1)], [])) (S' := (am_sh, hx, w.1, w.2)) rfl ?_
  refine am_Rn.sub [2, 3, 1, 0] rfl rfl ?_
  exact ezM_orderOf_L4 hd R am_N v1 0 0 w hp
/-- SixHandsModel.about(I)I [83] -/
def zM_about (v1 : Int32) (w : zHM) : Option (Int32) := am_b (zM_isIn v1 10 (9 + (w.1 84 1))) fun r1 => if r1 = 0 then (am_b (zM_hands w) fun r3 => am_b (zM_isIn v1 20 (19 + r3)) fun r4 => if r4 = 0 then (if v1 = 0 then (some (w.1 83 2)) else if v1 = 1 then (some (w.1 84 0)) else if v1 = 2 then (some (w.1 84 1)) else if v1 = 3 then (some (w.1 84 2)) else if v1 = 4 then (some (w.1 84 3)) else if v1 = 5 then (some (w.1 84 4)) else if v1 = 6 then (some (w.1 84 5)) else if v1 = 7 then (some (w.1 84 6)) else if v1 = 8 then (some (w.1 83 5)) else (some (-2))) else ((zM_orderOf (v1 - 20) w).bind fun r15 => some r15)) else (am_ix 350 ((34 + v1) - 10) (some (w.1 84 (((34 + v1) - 10).toNatClampNeg))))
set_option maxRecDepth 20000 in
theorem ezM_about {d : Nat} (hd : 3 ≤ d) (v1 : Int32) (w : zHM) (R : Int32) (hp : zM_about v1 w = some R) : am_Ev 83 Xs am_P d 259 [.ref 83, .int v1] (am_sh, hx, w.1, w.2) (some (.int R), (am_sh, hx, w.1, w.2)) := by
  obtain ⟨d, rfl⟩ : ∃ k, d = k + 1 := ⟨d - 1, by omega⟩
  unfold zM_about at hp
  show am_Rn 83 Xs am_P _ 259 (0, [(0, .ref 83), (1, .int v1)], []) _ _
  refine am_Rn.run am_h259 8 (F' := (12, [(0, .ref 83), (1, .int v1)], [.int (9 + (w.1 84 1)), .int 10, .int v1])) (S' := (am_sh, hx, w.1, w.2)) rfl ?_
  obtain ⟨r1, h_r1, hp⟩ := am_b_e hp
  refine am_Rn.call am_h259 (mj := 152) (As := [.int v1, .int 10, .int (9 + (w.1 84 1))]) (F' := (15, [(0, .ref 83), (1, .int v1)], [])) (M' := am_m152) (r := some (.int r1)) (S1 := (am_sh, hx, w.1, w.2)) rfl am_h152 rfl (by subst h_r1; exact (ezM_isIn (by omega) v1 10 (9 + (w.1 84 1)))) ?_
  refine am_Rn.ite am_h259 (c := r1 = 0) (t := 31) (f := 18) (lv := [(0, .ref 83), (1, .int v1)]) (st := []) (S' := (am_sh, hx, w.1, w.2)) rfl hp (fun hc2 hp => ?_) (fun hc2 hp => ?_)
  · refine am_Rn.run am_h259 4 (F' := (37, [(0, .ref 83), (1, .int v1)], [.ref 83, .int 19, .int 20, .int v1])) (S' := (am_sh, hx, w.1, w.2)) rfl ?_
    obtain ⟨r3, h_r3, hp⟩ := am_b_e hp
    refine am_Rn.call am_h259 (mj := 156) (As := [.ref 83]) (F' := (40, [(0, .ref 83), (1, .int v1)], [.int 19, .int 20, .int v1])) (M' := am_m156) (r := some (.int r3)) (S1 := (am_sh, hx, w.1, w.2)) rfl am_h156 rfl (by subst h_r3; exact (ezM_hands (by omega) w)) ?_
    refine am_Rn.run am_h259 1 (F' := (41, [(0, .ref 83), (1, .int v1)], [.int (19 + r3), .int 20, .int v1])) (S' := (am_sh, hx, w.1, w.2)) rfl ?_
    obtain ⟨r4, h_r4, hp⟩ := am_b_e hp
    refine am_Rn.call am_h259 (mj := 152) (As := [.int v1, .int 20, .int (19 + r3)]) (F' := (44, [(0, .ref 83), (1, .int v1)], [])) (M' := am_m152) (r := some (.int r4)) (S1 := (am_sh, hx, w.1, w.2)) rfl am_h152 rfl (by subst h_r4; exact (ezM_isIn (by omega) v1 20 (19 + r3))) ?_
    refine am_Rn.ite am_h259 (c := r4 = 0) (t := 56) (f := 47) (lv := [(0, .ref 83), (1, .int v1)]) (st := []) (S' := (am_sh, hx, w.1, w.2)) rfl hp (fun hc5 hp => ?_) (fun hc5 hp => ?_)
    · refine am_Rn.run am_h259 1 (F' := (57, [(0, .ref 83), (1, .int v1)], [.int v1])) (S' := (am_sh, hx, w.1, w.2)) rfl ?_
      refine am_Rn.step am_h259 (F' := (am_sw v1 0 168 [108, 113, 120, 127, 134, 141, 148, 155, 163], [(0, .ref 83), (1, .int v1)], [])) (S' := (am_sh, hx, w.1, w.2)) rfl ?_
      refine am_ite hp (fun hc6 hp => ?_) (fun hc6 hp => ?_)
      · rw [show am_sw v1 0 168 [108, 113, 120, 127, 134, 141, 148, 155, 163] = 108 from by subst hc6; rfl]
        refine am_Rn.run am_h259 2 (F' := (112, [(0, .ref 83), (1, .int v1)], [.int (w.1 83 2)])) (S' := (am_sh, hx, w.1, w.2)) rfl ?_
        cases hp
        exact am_Rn.ret am_h259 rfl
      refine am_ite hp (fun hc7 hp => ?_) (fun hc7 hp => ?_)
      · rw [show am_sw v1 0 168 [108, 113, 120, 127, 134, 141, 148, 155, 163] = 113 from by subst hc7; rfl]
        refine am_Rn.run am_h259 4 (F' := (119, [(0, .ref 83), (1, .int v1)], [.int (w.1 84 0)])) (S' := (am_sh, hx, w.1, w.2)) rfl ?_
        cases hp
        exact am_Rn.ret am_h259 rfl
      refine am_ite hp (fun hc8 hp => ?_) (fun hc8 hp => ?_)
      · rw [show am_sw v1 0 168 [108, 113, 120, 127, 134, 141, 148, 155, 163] = 120 from by subst hc8; rfl]
        refine am_Rn.run am_h259 4 (F' := (126, [(0, .ref 83), (1, .int v1)], [.int (w.1 84 1)])) (S' := (am_sh, hx, w.1, w.2)) rfl ?_
        cases hp
        exact am_Rn.ret am_h259 rfl
      refine am_ite hp (fun hc9 hp => ?_) (fun hc9 hp => ?_)
      · rw [show am_sw v1 0 168 [108, 113, 120, 127, 134, 141, 148, 155, 163] = 127 from by subst hc9; rfl]
        refine am_Rn.run am_h259 4 (F' := (133, [(0, .ref 83), (1, .int v1)], [.int (w.1 84 2)])) (S' := (am_sh, hx, w.1, w.2)) rfl ?_
        cases hp
        exact am_Rn.ret am_h259 rfl
      refine am_ite hp (fun hc10 hp => ?_) (fun hc10 hp => ?_)
      · rw [show am_sw v1 0 168 [108, 113, 120, 127, 134, 141, 148, 155, 163] = 134 from by subst hc10; rfl]
        refine am_Rn.run am_h259 4 (F' := (140, [(0, .ref 83), (1, .int v1)], [.int (w.1 84 3)])) (S' := (am_sh, hx, w.1, w.2)) rfl ?_
        cases hp
        exact am_Rn.ret am_h259 rfl
      refine am_ite hp (fun hc11 hp => ?_) (fun hc11 hp => ?_)
      · rw [show am_sw v1 0 168 [108, 113, 120, 127, 134, 141, 148, 155, 163] = 141 from by subst hc11; rfl]
        refine am_Rn.run am_h259 4 (F' := (147, [(0, .ref 83), (1, .int v1)], [.int (w.1 84 4)])) (S' := (am_sh, hx, w.1, w.2)) rfl ?_
        cases hp
        exact am_Rn.ret am_h259 rfl
      refine am_ite hp (fun hc12 hp => ?_) (fun hc12 hp => ?_)
      · rw [show am_sw v1 0 168 [108, 113, 120, 127, 134, 141, 148, 155, 163] = 148 from by subst hc12; rfl]
        refine am_Rn.run am_h259 4 (F' := (154, [(0, .ref 83), (1, .int v1)], [.int (w.1 84 5)])) (S' := (am_sh, hx, w.1, w.2)) rfl ?_
        cases hp
        exact am_Rn.ret am_h259 rfl
      refine am_ite hp (fun hc13 hp => ?_) (fun hc13 hp => ?_)
      · rw [show am_sw v1 0 168 [108, 113, 120, 127, 134, 141, 148, 155, 163] = 155 from by subst hc13; rfl]
        refine am_Rn.run am_h259 4 (F' := (162, [(0, .ref 83), (1, .int v1)], [.int (w.1 84 6)])) (S' := (am_sh, hx, w.1, w.2)) rfl ?_
        cases hp
        exact am_Rn.ret am_h259 rfl
      refine am_ite hp (fun hc14 hp => ?_) (fun hc14 hp => ?_)
      · rw [show am_sw v1 0 168 [108, 113, 120, 127, 134, 141, 148, 155, 163] = 163 from by subst hc14; rfl]
        refine am_Rn.run am_h259 2 (F' := (167, [(0, .ref 83), (1, .int v1)], [.int (w.1 83 5)])) (S' := (am_sh, hx, w.1, w.2)) rfl ?_
        cases hp
        exact am_Rn.ret am_h259 rfl
      · rw [show am_sw v1 0 168 [108, 113, 120, 127, 134, 141, 148, 155, 163] = 168 from (if_neg hc6).trans ((if_neg hc7).trans ((if_neg hc8).trans ((if_neg hc9).trans ((if_neg hc10).trans ((if_neg hc11).trans ((if_neg hc12).trans ((if_neg hc13).trans ((if_neg hc14).trans (rfl)))))))))]
        refine am_Rn.run am_h259 1 (F' := (170, [(0, .ref 83), (1, .int v1)], [.int (-2)])) (S' := (am_sh, hx, w.1, w.2)) rfl ?_
        cases hp
        exact am_Rn.ret am_h259 rfl
    · refine am_Rn.run am_h259 4 (F' := (52, [(0, .ref 83), (1, .int v1)], [.int (v1 - 20), .ref 83])) (S' := (am_sh, hx, w.1, w.2)) rfl ?_
      obtain ⟨r15, h_r15, hp⟩ := am_bind hp
      refine am_Rn.call am_h259 (mj := 258) (As := [.ref 83, .int (v1 - 20)]) (F' := (55, [(0, .ref 83), (1, .int v1)], [])) (M' := am_m258) (r := some (.int r15)) (S1 := (am_sh, hx, w.1, w.2)) rfl am_h258 rfl (ezM_orderOf (by omega) (v1 - 20) w _ h_r15) ?_
      cases hp
      exact am_Rn.ret am_h259 rfl
  · refine am_Rn.run am_h259 7 (F' := (29, [(0, .ref 83), (1, .int v1)], [.int ((34 + v1) - 10), .ref 84])) (S' := (am_sh, hx, w.1, w.2)) rfl ?_
    obtain ⟨hn16, hp⟩ := am_ix_e hp
    refine am_Rn.stepG am_h259 (c := ((34 + v1) - 10) < 0 ∨ 350 ≤ ((34 + v1) - 10).toNatClampNeg) (F' := (30, [(0, .ref 83), (1, .int v1)], [.int (w.1 84 (((34 + v1) - 10).toNatClampNeg))])) (S' := (am_sh, hx, w.1, w.2)) rfl hn16 ?_
    cases hp
    exact am_Rn.ret am_h259 rfl
end
