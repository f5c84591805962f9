section
variable {Xs : Nat × (Nat → Int32)} {hx hm : Nat → Nat → Int32} {g : Nat → Nat → Int64} {S : am_S}
/-- SixHandsModel.judge(I)I [83] -/
def zM_judge_L13 : Nat → Int32 → Int32 → zHM → Option (Int32 × zHM)
  | 0, _, _, _ => none
  | n + 1, v1, v2, w => if v2 < (w.1 84 6) then ((zM_whyNot v2 w).bind fun r4 => if 0 < r4.1 then (if v1 = 0 then (some ((v2, r4.2))) else (some ((r4.1, r4.2)))) else (zM_judge_L13 n v1 (v2 + 1) r4.2)) else (if v1 = 0 then (some (((-1), w))) else (some ((0, w))))
set_option maxRecDepth 20000 in
theorem ezM_judge_L13 {d : Nat} (hd : 6 ≤ d) (R : Int32 × zHM) : ∀ (n : Nat) (v1 : Int32) (v2 : Int32) (w : zHM), zM_judge_L13 n v1 v2 w = some R → am_Rn 83 Xs am_P d 227 (13, [(0, .ref 83), (1, .int v1), (2, .int v2)], []) (am_sh, hx, w.1, w.2) (some (.int R.1), (am_sh, hx, R.2.1, R.2.2))
  | 0, _, _, _, hp => by cases hp
  | n + 1, v1, v2, w, hp => by
    obtain ⟨d, rfl⟩ : ∃ k, d = k + 1 := ⟨d - 1, by omega⟩
    unfold zM_judge_L13 at hp
    refine am_Rn.run am_h227 5 (F' := (21, [(0, .ref 83), (1, .int v1), (2, .int v2)], [.int (w.1 84 6), .int v2])) (S' := (am_sh, hx, w.1, w.2)) rfl ?_
    refine am_Rn.ite am_h227 (c := v2 < (w.1 84 6)) (t := 24) (f := 50) (lv := [(0, .ref 83), (1, .int v1), (2, .int v2)]) (st := []) (S' := (am_sh, hx, w.1, w.2)) rfl hp (fun hc3 hp => ?_) (fun hc3 hp => ?_)
    · refine am_Rn.run am_h227 2 (F' := (26, [(0, .ref 83), (1, .int v1), (2, .int v2)], [.int v2, .ref 83])) (S' := (am_sh, hx, w.1, w.2)) rfl ?_
      obtain ⟨r4, h_r4, hp⟩ := am_bind hp
      refine am_Rn.call am_h227 (mj := 226) (As := [.ref 83, .int v2]) (F' := (29, [(0, .ref 83), (1, .int v1), (2, .int v2)], [])) (M' := am_m226) (r := some (.int r4.1)) (S1 := (am_sh, hx, r4.2.1, r4.2.2)) rfl am_h226 rfl (ezM_whyNot (by omega) v2 w _ h_r4) ?_
      refine am_Rn.run am_h227 2 (F' := (31, [(3, .int r4.1), (0, .ref 83), (1, .int v1), (2, .int v2)], [.int r4.1])) (S' := (am_sh, hx, r4.2.1, r4.2.2)) rfl ?_
      refine am_Rn.ite am_h227 (c := 0 < r4.1) (t := 34) (f := 44) (lv := [(3, .int r4.1), (0, .ref 83), (1, .int v1), (2, .int v2)]) (st := []) (S' := (am_sh, hx, r4.2.1, r4.2.2)) rfl hp (fun hc5 hp => ?_) (fun hc5 hp => ?_)
      · refine am_Rn.run am_h227 1 (F' := (35, [(3, .int r4.1), (0, .ref 83), (1, .int v1), (2, .int v2)], [.int v1])) (S' := (am_sh, hx, r4.2.1, r4.2.2)) rfl ?_
        refine am_Rn.ite am_h227 (c := v1 = 0) (t := 38) (f := 42) (lv := [(3, .int r4.1), (0, .ref 83), (1, .int v1), (2, .int v2)]) (st := []) (S' := (am_sh, hx, r4.2.1, r4.2.2)) rfl hp (fun hc6 hp => ?_) (fun hc6 hp => ?_)
        · refine am_Rn.run am_h227 2 (F' := (43, [(3, .int r4.1), (0, .ref 83), (1, .int v1), (2, .int v2)], [.int v2])) (S' := (am_sh, hx, r4.2.1, r4.2.2)) rfl ?_
          cases hp
          exact am_Rn.ret am_h227 rfl
        · refine am_Rn.run am_h227 1 (F' := (43, [(3, .int r4.1), (0, .ref 83), (1, .int v1), (2, .int v2)], [.int r4.1])) (S' := (am_sh, hx, r4.2.1, r4.2.2)) rfl ?_
          cases hp
          exact am_Rn.ret am_h227 rfl
      · refine am_Rn.run am_h227 2 (F' := (13, [(2, .int (v2 + 1)), (3, .int r4.1), (0, .ref 83), (1, .int v1)], [])) (S' := (am_sh, hx, r4.2.1, r4.2.2)) rfl ?_
        refine am_Rn.sub [2, 3, 0] rfl rfl ?_
        exact ezM_judge_L13 hd R n v1 (v2 + 1) r4.2 hp
    · refine am_Rn.run am_h227 1 (F' := (51, [(0, .ref 83), (1, .int v1), (2, .int v2)], [.int v1])) (S' := (am_sh, hx, w.1, w.2)) rfl ?_
      refine am_Rn.ite am_h227 (c := v1 = 0) (t := 54) (f := 58) (lv := [(0, .ref 83), (1, .int v1), (2, .int v2)]) (st := []) (S' := (am_sh, hx, w.1, w.2)) rfl hp (fun hc7 hp => ?_) (fun hc7 hp => ?_)
      · refine am_Rn.run am_h227 2 (F' := (59, [(0, .ref 83), (1, .int v1), (2, .int v2)], [.int (-1)])) (S' := (am_sh, hx, w.1, w.2)) rfl ?_
        cases hp
        exact am_Rn.ret am_h227 rfl
      · refine am_Rn.run am_h227 1 (F' := (59, [(0, .ref 83), (1, .int v1), (2, .int v2)], [.int 0])) (S' := (am_sh, hx, w.1, w.2)) rfl ?_
        cases hp
        exact am_Rn.ret am_h227 rfl
def zM_judge (v1 : Int32) (w : zHM) : Option (Int32 × zHM) := am_b (zM_isIn v1 0 1) fun r1 => if r1 = 0 then (some (((-1), w))) else (zM_judge_L13 am_N v1 0 w)
set_option maxRecDepth 20000 in
theorem ezM_judge {d : Nat} (hd : 6 ≤ d) (v1 : Int32) (w : zHM) (R : Int32 × zHM) (hp : zM_judge v1 w = some R) : am_Ev 83 Xs am_P d 227 [.ref 83, .int v1] (am_sh, hx, w.1, w.2) (some (.int R.1), (am_sh, hx, R.2.1, R.2.2)) := by
  obtain ⟨d, rfl⟩ : ∃ k, d = k + 1 := ⟨d - 1, by omega⟩
  unfold zM_judge at hp
  show am_Rn 83 Xs am_P _ 227 (0, [(0, .ref 83), (1, .int v1)], []) _ _
  refine am_Rn.run am_h227 3 (F' := (3, [(0, .ref 83), (1, .int v1)], [.int 1, .int 0, .int v1])) (S' := (am_sh, hx, w.1, w.2)) rfl ?_
  obtain ⟨r1, h_r1, hp⟩ := am_b_e hp
  refine am_Rn.call am_h227 (mj := 152) (As := [.int v1, .int 0, .int 1]) (F' := (6, [(0, .ref 83), (1, .int v1)], [])) (M' := am_m152) (r := some (.int r1)) (S1 := (am_sh, hx, w.1, w.2)) rfl am_h152 rfl (by subst h_r1; exact (ezM_isIn (by omega) v1 0 1)) ?_
  refine am_Rn.ite am_h227 (c := r1 = 0) (t := 9) (f := 11) (lv := [(0, .ref 83), (1, .int v1)]) (st := []) (S' := (am_sh, hx, w.1, w.2)) rfl hp (fun hc2 hp => ?_) (fun hc2 hp => ?_)
  · refine am_Rn.run am_h227 1 (F' := (10, [(0, .ref 83), (1, .int v1)], [.int (-1)])) (S' := (am_sh, hx, w.1, w.2)) rfl ?_
    cases hp
    exact am_Rn.ret am_h227 rfl
  · refine am_Rn.run am_h227 2 (F' := (13, [(2, .int 0), (0, .ref 83), (1, .int v1)], [])) (S' := (am_sh, hx, w.1, w.2)) rfl ?_
    refine am_Rn.sub [1, 2, 0] rfl rfl ?_
    exact ezM_judge_L13 hd R am_N v1 0 w hp
/-- SixHandsModel.swaps()I [83] -/
def zM_swaps_L17 (k4 : Int32 → Int32 → zHM → Option (Int32)) : Nat → Int32 → Int32 → Int32 → zHM → Option (Int32)
  | 0, _, _, _, _ => none
  | n + 1, v1, v2, v3, w => if v3 < (w.1 84 1) then ((zM_isSwapped v2 v3 w).bind fun r3 => if r3 = 0 then (am_b (v1 + 0) fun x5 => zM_swaps_L17 k4 n x5 v2 (v3 + 1) w) else (am_b (v1 + 1) fun x6 => zM_swaps_L17 k4 n x6 v2 (v3 + 1) w)) else (k4 v1 (v2 + 1) w)
set_option maxRecDepth 20000 in
theorem ezM_swaps_L17 {d : Nat} (hd : 2 ≤ d) (R : Int32) (k4 : Int32 → Int32 → zHM → Option (Int32)) (hk4 : ∀ (v1 : Int32) (v2 : Int32) (w : zHM), k4 v1 v2 w = some R → am_Rn 83 Xs am_P d 228 (4, [(0, .ref 83), (1, .int v1), (2, .int v2)], []) (am_sh, hx, w.1, w.2) (some (.int R), (am_sh, hx, w.1, w.2))) : ∀ (n : Nat) (v1 : Int32) (v2 : Int32) (v3 : Int32) (w : zHM), zM_swaps_L17 k4 n v1 v2 v3 w = some R → am_Rn 83 Xs am_P d 228 (17, [(0, .ref 83), (1, .int v1), (2, .int v2), (3, .int v3)], []) (am_sh, hx, w.1, w.2) (some (.int R), (am_sh, hx, w.1, w.2))
  | 0, _, _, _, _, hp => by cases hp
  | n + 1, v1, v2, v3, w, hp => by
    obtain ⟨d, rfl⟩ : ∃ k, d = k + 1 := ⟨d - 1, by omega⟩
    unfold zM_swaps_L17 at hp
    refine am_Rn.run am_h228 5 (F' := (24, [(0, .ref 83), (1, .int v1), (2, .int v2), (3, .int v3)], [.int (w.1 84 1), .int v3])) (S' := (am_sh, hx, w.1, w.2)) rfl ?_
    refine am_Rn.ite am_h228 (c := v3 < (w.1 84 1)) (t := 27) (f := 50) (lv := [(0, .ref 83), (1, .int v1), (2, .int v2), (3, .int v3)]) (st := []) (S' := (am_sh, hx, w.1, w.2)) rfl hp (fun hc2 hp => ?_) (fun hc2 hp => ?_)
    · refine am_Rn.run am_h228 4 (F' := (31, [(0, .ref 83), (1, .int v1), (2, .int v2), (3, .int v3)], [.int v3, .int v2, .ref 83, .int v1])) (S' := (am_sh, hx, w.1, w.2)) rfl ?_
      obtain ⟨r3, h_r3, hp⟩ := am_bind hp
      refine am_Rn.call am_h228 (mj := 224) (As := [.ref 83, .int v2, .int v3]) (F' := (34, [(0, .ref 83), (1, .int v1), (2, .int v2), (3, .int v3)], [.int v1])) (M' := am_m224) (r := some (.int r3)) (S1 := (am_sh, hx, w.1, w.2)) rfl am_h224 rfl (ezM_isSwapped (by omega) v2 v3 w _ h_r3) ?_
      refine am_Rn.ite am_h228 (c := r3 = 0) (t := 41) (f := 37) (lv := [(0, .ref 83), (1, .int v1), (2, .int v2), (3, .int v3)]) (st := [.int v1]) (S' := (am_sh, hx, w.1, w.2)) rfl hp (fun hc4 hp => ?_) (fun hc4 hp => ?_)
      · obtain ⟨x5, h_x5, hp⟩ := am_b_e hp
        refine am_Rn.run am_h228 5 (F' := (17, [(3, .int (v3 + 1)), (1, .int x5), (0, .ref 83), (2, .int v2)], [])) (S' := (am_sh, hx, w.1, w.2)) (by subst h_x5; rfl) ?_
        refine am_Rn.sub [2, 1, 3, 0] rfl rfl ?_
        exact ezM_swaps_L17 hd R k4 hk4 n x5 v2 (v3 + 1) w hp
      · obtain ⟨x6, h_x6, hp⟩ := am_b_e hp
        refine am_Rn.run am_h228 6 (F' := (17, [(3, .int (v3 + 1)), (1, .int x6), (0, .ref 83), (2, .int v2)], [])) (S' := (am_sh, hx, w.1, w.2)) (by subst h_x6; rfl) ?_
        refine am_Rn.sub [2, 1, 3, 0] rfl rfl ?_
        exact ezM_swaps_L17 hd R k4 hk4 n x6 v2 (v3 + 1) w hp
    · refine am_Rn.run am_h228 2 (F' := (4, [(2, .int (v2 + 1)), (0, .ref 83), (1, .int v1), (3, .int v3)], [])) (S' := (am_sh, hx, w.1, w.2)) rfl ?_
      refine am_Rn.sub [1, 2, 0] rfl rfl ?_
      exact hk4 v1 (v2 + 1) w hp
def zM_swaps_L4 : Nat → Int32 → Int32 → zHM → Option (Int32)
  | 0, _, _, _ => none
  | n + 1, v1, v2, w => if v2 < (w.1 84 6) then (zM_swaps_L17 (fun v1 v2 w => zM_swaps_L4 n v1 v2 w) am_N v1 v2 0 w) else (some v1)
set_option maxRecDepth 20000 in
theorem ezM_swaps_L4 {d : Nat} (hd : 2 ≤ d) (R : Int32) : ∀ (n : Nat) (v1 : Int32) (v2 : Int32) (w : zHM), zM_swaps_L4 n v1 v2 w = some R → am_Rn 83 Xs am_P d 228 (4, [(0, .ref 83), (1, .int v1), (2, .int v2)], []) (am_sh, hx, w.1, w.2) (some (.int R), (am_sh, hx, w.1, w.2))
  | 0, _, _, _, hp => by cases hp
  | n + 1, v1, v2, w, hp => by
    obtain ⟨d, rfl⟩ : ∃ k, d = k + 1 := ⟨d - 1, by omega⟩
    unfold zM_swaps_L4 at hp
    refine am_Rn.run am_h228 5 (F' := (12, [(0, .ref 83), (1, .int v1), (2, .int v2)], [.int (w.1 84 6), .int v2])) (S' := (am_sh, hx, w.1, w.2)) rfl ?_
    refine am_Rn.ite am_h228 (c := v2 < (w.1 84 6)) (t := 15) (f := 56) (lv := [(0, .ref 83), (1, .int v1), (2, .int v2)]) (st := []) (S' := (am_sh, hx, w.1, w.2)) rfl hp (fun hc1 hp => ?_) (fun hc1 hp => ?_)
    · refine am_Rn.run am_h228 2 (F' := (17, [(3, .int 0), (0, .ref 83), (1, .int v1), (2, .int v2)], [])) (S' := (am_sh, hx, w.1, w.2)) rfl ?_
      refine am_Rn.sub [1, 2, 3, 0] rfl rfl ?_
      exact ezM_swaps_L17 hd R (fun v1 v2 w => zM_swaps_L4 n v1 v2 w) (fun v1 v2 w hp => ezM_swaps_L4 hd R n v1 v2 w hp) am_N v1 v2 0 w hp
    · refine am_Rn.run am_h228 1 (F' := (57, [(0, .ref 83), (1, .int v1), (2, .int v2)], [.int v1])) (S' := (am_sh, hx, w.1, w.2)) rfl ?_
      cases hp
      exact am_Rn.ret am_h228 rfl
def zM_swaps (w : zHM) : Option (Int32) := zM_swaps_L4 am_N 0 0 w
set_option maxRecDepth 20000 in
theorem ezM_swaps {d : Nat} (hd : 2 ≤ d) (w : zHM) (R : Int32) (hp : zM_swaps w = some R) : am_Ev 83 Xs am_P d 228 [.ref 83] (am_sh, hx, w.1, w.2) (some (.int R), (am_sh, hx, w.1, w.2)) := by
  obtain ⟨d, rfl⟩ : ∃ k, d = k + 1 := ⟨d - 1, by omega⟩
  unfold zM_swaps at hp
  show am_Rn 83 Xs am_P _ 228 (0, [(0, .ref 83)], []) _ _
  refine am_Rn.run am_h228 4 (F' := (4, [(2, .int 0), (1, .int 0), (0, .ref 83)], [])) (S' := (am_sh, hx, w.1, w.2)) rfl ?_
  refine am_Rn.sub [2, 1, 0] rfl rfl ?_
  exact ezM_swaps_L4 hd R am_N 0 0 w hp
/-- SixHandsModel.longest(I)I [83] -/
def zM_longest_L20 : Nat → Int32 → Int32 → Int32 → zHM → Option (Int32)
  | 0, _, _, _, _ => none
  | n + 1, v1, v2, v3, w => if v3 < (w.1 84 6) then ((zM_longFor v3 v1 w).bind fun r5 => if v2 < r5 then ((zM_longFor v3 v1 w).bind fun r7 => zM_longest_L20 n v1 r7 (v3 + 1) w) else (zM_longest_L20 n v1 v2 (v3 + 1) w)) else (some v2)
set_option maxRecDepth 20000 in
theorem ezM_longest_L20 {d : Nat} (hd : 2 ≤ d) (R : Int32) : ∀ (n : Nat) (v1 : Int32) (v2 : Int32) (v3 : Int32) (w : zHM), zM_longest_L20 n v1 v2 v3 w = some R → am_Rn 83 Xs am_P d 229 (20, [(0, .ref 83), (1, .int v1), (2, .int v2), (3, .int v3)], []) (am_sh, hx, w.1, w.2) (some (.int R), (am_sh, hx, w.1, w.2))
  | 0, _, _, _, _, hp => by cases hp
  | n + 1, v1, v2, v3, w, hp => by
    obtain ⟨d, rfl⟩ : ∃ k, d = k + 1 := ⟨d - 1, by omega⟩
    unfold zM_longest_L20 at hp
    refine am_Rn.run am_h229 5 (F' := (28, [(0, .ref 83), (1, .int v1), (2, .int v2), (3, .int v3)], [.int (w.1 84 6), .int v3])) (S' := (am_sh, hx, w.1, w.2)) rfl ?_
    refine am_Rn.ite am_h229 (c := v3 < (w.1 84 6)) (t := 31) (f := 54) (lv := [(0, .ref 83), (1, .int v1), (2, .int v2), (3, .int v3)]) (st := []) (S' := (am_sh, hx, w.1, w.2)) rfl hp (fun hc4 hp => ?_) (fun hc4 hp => ?_)
    · refine am_Rn.run am_h229 3 (F' := (34, [(0, .ref 83), (1, .int v1), (2, .int v2), (3, .int v3)], [.int v1, .int v3, .ref 83])) (S' := (am_sh, hx, w.1, w.2)) rfl ?_
      obtain ⟨r5, h_r5, hp⟩ := am_bind hp
      refine am_Rn.call am_h229 (mj := 225) (As := [.ref 83, .int v3, .int v1]) (F' := (37, [(0, .ref 83), (1, .int v1), (2, .int v2), (3, .int v3)], [])) (M' := am_m225) (r := some (.int r5)) (S1 := (am_sh, hx, w.1, w.2)) rfl am_h225 rfl (ezM_longFor (by omega) v3 v1 w _ h_r5) ?_
      refine am_Rn.run am_h229 1 (F' := (38, [(0, .ref 83), (1, .int v1), (2, .int v2), (3, .int v3)], [.int v2, .int r5])) (S' := (am_sh, hx, w.1, w.2)) rfl ?_
      refine am_Rn.ite am_h229 (c := v2 < r5) (t := 41) (f := 48) (lv := [(0, .ref 83), (1, .int v1), (2, .int v2), (3, .int v3)]) (st := []) (S' := (am_sh, hx, w.1, w.2)) rfl hp (fun hc6 hp => ?_) (fun hc6 hp => ?_)
      · refine am_Rn.run am_h229 3 (F' := (44, [(0, .ref 83), (1, .int v1), (2, .int v2), (3, .int v3)], [.int v1, .int v3, .ref 83])) (S' := (am_sh, hx, w.1, w.2)) rfl ?_
        obtain ⟨r7, h_r7, hp⟩ := am_bind hp
        refine am_Rn.call am_h229 (mj := 225) (As := [.ref 83, .int v3, .int v1]) (F' := (47, [(0, .ref 83), (1, .int v1), (2, .int v2), (3, .int v3)], [])) (M' := am_m225) (r := some (.int r7)) (S1 := (am_sh, hx, w.1, w.2)) rfl am_h225 rfl (ezM_longFor (by omega) v3 v1 w _ h_r7) ?_
        refine am_Rn.run am_h229 3 (F' := (20, [(3, .int (v3 + 1)), (2, .int r7), (0, .ref 83), (1, .int v1)], [])) (S' := (am_sh, hx, w.1, w.2)) rfl ?_
        refine am_Rn.sub [2, 3, 1, 0] rfl rfl ?_
        exact ezM_longest_L20 hd R n v1 r7 (v3 + 1) w hp
      · refine am_Rn.run am_h229 2 (F' := (20, [(3, .int (v3 + 1)), (0, .ref 83), (1, .int v1), (2, .int v2)], [])) (S' := (am_sh, hx, w.1, w.2)) rfl ?_
        refine am_Rn.sub [1, 2, 3, 0] rfl rfl ?_
        exact ezM_longest_L20 hd R n v1 v2 (v3 + 1) w hp
    · refine am_Rn.run am_h229 1 (F' := (55, [(0, .ref 83), (1, .int v1), (2, .int v2), (3, .int v3)], [.int v2])) (S' := (am_sh, hx, w.1, w.2)) rfl ?_
      cases hp
      exact am_Rn.ret am_h229 rfl
def zM_longest (v1 : Int32) (w : zHM) : Option (Int32) := am_b (zM_hands w) fun r1 => am_b (zM_isIn v1 0 (r1 - 1)) fun r2 => if r2 = 0 then (some (-1)) else (zM_longest_L20 am_N v1 0 0 w)
set_option maxRecDepth 20000 in
theorem ezM_longest {d : Nat} (hd : 2 ≤ d) (v1 : Int32) (w : zHM) (R : Int32) (hp : zM_longest v1 w = some R) : am_Ev 83 Xs am_P d 229 [.ref 83, .int v1] (am_sh, hx, w.1, w.2) (some (.int R), (am_sh, hx, w.1, w.2)) := by
  obtain ⟨d, rfl⟩ : ∃ k, d = k + 1 := ⟨d - 1, by omega⟩
  unfold zM_longest at hp
  show am_Rn 83 Xs am_P _ 229 (0, [(0, .ref 83), (1, .int v1)], []) _ _
  refine am_Rn.run am_h229 3 (F' := (3, [(0, .ref 83), (1, .int v1)], [.ref 83, .int 0, .int v1])) (S' := (am_sh, hx, w.1, w.2)) rfl ?_
  obtain ⟨r1, h_r1, hp⟩ := am_b_e hp
  refine am_Rn.call am_h229 (mj := 156) (As := [.ref 83]) (F' := (6, [(0, .ref 83), (1, .int v1)], [.int 0, .int v1])) (M' := am_m156) (r := some (.int r1)) (S1 := (am_sh, hx, w.1, w.2)) rfl am_h156 rfl (by subst h_r1; exact (ezM_hands (by omega) w)) ?_
  refine am_Rn.run am_h229 2 (F' := (8, [(0, .ref 83), (1, .int v1)], [.int (r1 - 1), .int 0, .int v1])) (S' := (am_sh, hx, w.1, w.2)) rfl ?_
  obtain ⟨r2, h_r2, hp⟩ := am_b_e hp
  refine am_Rn.call am_h229 (mj := 152) (As := [.int v1, .int 0, .int (r1 - 1)]) (F' := (11, [(0, .ref 83), (1, .int v1)], [])) (M' := am_m152) (r := some (.int r2)) (S1 := (am_sh, hx, w.1, w.2)) rfl am_h152 rfl (by subst h_r2; exact (ezM_isIn (by omega) v1 0 (r1 - 1))) ?_
  refine am_Rn.ite am_h229 (c := r2 = 0) (t := 14) (f := 16) (lv := [(0, .ref 83), (1, .int v1)]) (st := []) (S' := (am_sh, hx, w.1, w.2)) rfl hp (fun hc3 hp => ?_) (fun hc3 hp => ?_)
  · refine am_Rn.run am_h229 1 (F' := (15, [(0, .ref 83), (1, .int v1)], [.int (-1)])) (S' := (am_sh, hx, w.1, w.2)) rfl ?_
    cases hp
    exact am_Rn.ret am_h229 rfl
  · refine am_Rn.run am_h229 4 (F' := (20, [(3, .int 0), (2, .int 0), (0, .ref 83), (1, .int v1)], [])) (S' := (am_sh, hx, w.1, w.2)) rfl ?_
    refine am_Rn.sub [2, 3, 1, 0] rfl rfl ?_
    exact ezM_longest_L20 hd R am_N v1 0 0 w hp
/-- SixHandsModel.isSet(I)Z [83] -/
def zM_isSet (v1 : Int32) (w : zHM) : Int32 := am_b (zM_isIn v1 0 (((1 : Int32) <<< ((w.1 84 0) &&& 31)) - 1)) fun r1 => r1 &&& 1
set_option maxRecDepth 20000 in
theorem ezM_isSet {d : Nat} (hd : 1 ≤ d) (v1 : Int32) (w : zHM) : am_Ev 83 Xs am_P d 245 [.ref 83, .int v1] (am_sh, hx, w.1, w.2) (some (.int ((zM_isSet v1 w))), (am_sh, hx, w.1, w.2)) := by
  obtain ⟨R, hp⟩ : ∃ R, zM_isSet v1 w = R := ⟨_, rfl⟩
  rw [hp]
  obtain ⟨d, rfl⟩ : ∃ k, d = k + 1 := ⟨d - 1, by omega⟩
  unfold zM_isSet at hp
  show am_Rn 83 Xs am_P _ 245 (0, [(0, .ref 83), (1, .int v1)], []) _ _
  refine am_Rn.run am_h245 10 (F' := (12, [(0, .ref 83), (1, .int v1)], [.int (((1 : Int32) <<< ((w.1 84 0) &&& 31)) - 1), .int 0, .int v1])) (S' := (am_sh, hx, w.1, w.2)) rfl ?_
  obtain ⟨r1, h_r1, hp⟩ := am_b_e hp
  refine am_Rn.call am_h245 (mj := 152) (As := [.int v1, .int 0, .int (((1 : Int32) <<< ((w.1 84 0) &&& 31)) - 1)]) (F' := (15, [(0, .ref 83), (1, .int v1)], [])) (M' := am_m152) (r := some (.int r1)) (S1 := (am_sh, hx, w.1, w.2)) rfl am_h152 rfl (by subst h_r1; exact (ezM_isIn (by omega) v1 0 (((1 : Int32) <<< ((w.1 84 0) &&& 31)) - 1))) ?_
  subst hp
  exact am_Rn.ret am_h245 rfl
/-- SixHandsModel.isThere(II)Z [83] -/
def zM_isThere (v1 : Int32) (v2 : Int32) (w : zHM) : Option (Int32) := if v2 < (w.1 84 1) then (if (((w.1 83 29) >>> (v2 &&& 31)) &&& 1) = 0 then ((zM_placeOf v1 v2 w).bind fun r3 => if r3 < 0 then (some 0) else (some 1)) else (some 0)) else (some 0)
set_option maxRecDepth 20000 in
theorem ezM_isThere {d : Nat} (hd : 1 ≤ d) (v1 : Int32) (v2 : Int32) (w : zHM) (R : Int32) (hp : zM_isThere v1 v2 w = some R) : am_Ev 83 Xs am_P d 230 [.ref 83, .int v1, .int v2] (am_sh, hx, w.1, w.2) (some (.int R), (am_sh, hx, w.1, w.2)) := by
  obtain ⟨d, rfl⟩ : ∃ k, d = k + 1 := ⟨d - 1, by omega⟩
  unfold zM_isThere at hp
  show am_Rn 83 Xs am_P _ 230 (0, [(0, .ref 83), (1, .int v1), (2, .int v2)], []) _ _
  refine am_Rn.run am_h230 5 (F' := (7, [(0, .ref 83), (1, .int v1), (2, .int v2)], [.int (w.1 84 1), .int v2])) (S' := (am_sh, hx, w.1, w.2)) rfl ?_
  refine am_Rn.ite am_h230 (c := v2 < (w.1 84 1)) (t := 10) (f := 34) (lv := [(0, .ref 83), (1, .int v1), (2, .int v2)]) (st := []) (S' := (am_sh, hx, w.1, w.2)) rfl hp (fun hc1 hp => ?_) (fun hc1 hp => ?_)
  · refine am_Rn.run am_h230 6 (F' := (18, [(0, .ref 83), (1, .int v1), (2, .int v2)], [.int (((w.1 83 29) >>> (v2 &&& 31)) &&& 1)])) (S' := (am_sh, hx, w.1, w.2)) rfl ?_
    refine am_Rn.ite am_h230 (c := (((w.1 83 29) >>> (v2 &&& 31)) &&& 1) = 0) (t := 21) (f := 34) (lv := [(0, .ref 83), (1, .int v1), (2, .int v2)]) (st := []) (S' := (am_sh, hx, w.1, w.2)) rfl hp (fun hc2 hp => ?_) (fun hc2 hp => ?_)
    · refine am_Rn.run am_h230 3 (F' := (24, [(0, .ref 83), (1, .int v1), (2, .int v2)], [.int v2, .int v1, .ref 83])) (S' := (am_sh, hx, w.1, w.2)) rfl ?_
      obtain ⟨r3, h_r3, hp⟩ := am_bind hp
      refine am_Rn.call am_h230 (mj := 159) (As := [.ref 83, .int v1, .int v2]) (F' := (27, [(0, .ref 83), (1, .int v1), (2, .int v2)], [])) (M' := am_m159) (r := some (.int r3)) (S1 := (am_sh, hx, w.1, w.2)) rfl am_h159 rfl (ezM_placeOf (by omega) v1 v2 w _ h_r3) ?_
      refine am_Rn.ite am_h230 (c := r3 < 0) (t := 34) (f := 30) (lv := [(0, .ref 83), (1, .int v1), (2, .int v2)]) (st := []) (S' := (am_sh, hx, w.1, w.2)) rfl hp (fun hc4 hp => ?_) (fun hc4 hp => ?_)
      · refine am_Rn.run am_h230 1 (F' := (35, [(0, .ref 83), (1, .int v1), (2, .int v2)], [.int 0])) (S' := (am_sh, hx, w.1, w.2)) rfl ?_
        cases hp
        exact am_Rn.ret am_h230 rfl
      · refine am_Rn.run am_h230 2 (F' := (35, [(0, .ref 83), (1, .int v1), (2, .int v2)], [.int 1])) (S' := (am_sh, hx, w.1, w.2)) rfl ?_
        cases hp
        exact am_Rn.ret am_h230 rfl
    · refine am_Rn.run am_h230 1 (F' := (35, [(0, .ref 83), (1, .int v1), (2, .int v2)], [.int 0])) (S' := (am_sh, hx, w.1, w.2)) rfl ?_
      cases hp
      exact am_Rn.ret am_h230 rfl
  · refine am_Rn.run am_h230 1 (F' := (35, [(0, .ref 83), (1, .int v1), (2, .int v2)], [.int 0])) (S' := (am_sh, hx, w.1, w.2)) rfl ?_
    cases hp
    exact am_Rn.ret am_h230 rfl
/-- SixHandsModel.crossing(II)Z [83] -/
def zM_crossing_L11 (k2 : Int32 → Int32 → Int32 → zHM → Option (Int32)) : Nat → Int32 → Int32 → Int32 → Int32 → zHM → Option (Int32)
  | 0, _, _, _, _, _ => none
  | n + 1, v1, v2, v3, v4, w => if v4 < 6 then (if ((v1 >>> (v3 &&& 31)) &&& 1) = 1 then (if ((v2 >>> (v4 &&& 31)) &&& 1) = 1 then ((zM_isAhead v3 v4 w).bind fun r5 => if r5 = 0 then (zM_crossing_L11 k2 n v1 v2 v3 (v4 + 1) w) else (some 1)) else (zM_crossing_L11 k2 n v1 v2 v3 (v4 + 1) w)) else (zM_crossing_L11 k2 n v1 v2 v3 (v4 + 1) w)) else (k2 v1 v2 (v3 + 1) w)
set_option maxRecDepth 20000 in
theorem ezM_crossing_L11 {d : Nat} (hd : 2 ≤ d) (R : Int32) (k2 : Int32 → Int32 → Int32 → zHM → Option (Int32)) (hk2 : ∀ (v1 : Int32) (v2 : Int32) (v3 : Int32) (w : zHM), k2 v1 v2 v3 w = some R → am_Rn 83 Xs am_P d 234 (2, [(0, .ref 83), (1, .int v1), (2, .int v2), (3, .int v3)], []) (am_sh, hx, w.1, w.2) (some (.int R), (am_sh, hx, w.1, w.2))) : ∀ (n : Nat) (v1 : Int32) (v2 : Int32) (v3 : Int32) (v4 : Int32) (w : zHM), zM_crossing_L11 k2 n v1 v2 v3 v4 w = some R → am_Rn 83 Xs am_P d 234 (11, [(0, .ref 83), (1, .int v1), (2, .int v2), (3, .int v3), (4, .int v4)], []) (am_sh, hx, w.1, w.2) (some (.int R), (am_sh, hx, w.1, w.2))
  | 0, _, _, _, _, _, hp => by cases hp
  | n + 1, v1, v2, v3, v4, w, hp => by
    obtain ⟨d, rfl⟩ : ∃ k, d = k + 1 := ⟨d - 1, by omega⟩
    unfold zM_crossing_L11 at hp
    refine am_Rn.run am_h234 2 (F' := (15, [(0, .ref 83), (1, .int v1), (2, .int v2), (3, .int v3), (4, .int v4)], [.int 6, .int v4])) (S' := (am_sh, hx, w.1, w.2)) rfl ?_
    refine am_Rn.ite am_h234 (c := v4 < 6) (t := 18) (f := 55) (lv := [(0, .ref 83), (1, .int v1), (2, .int v2), (3, .int v3), (4, .int v4)]) (st := []) (S' := (am_sh, hx, w.1, w.2)) rfl hp (fun hc2 hp => ?_) (fun hc2 hp => ?_)
    · refine am_Rn.run am_h234 6 (F' := (24, [(0, .ref 83), (1, .int v1), (2, .int v2), (3, .int v3), (4, .int v4)], [.int 1, .int ((v1 >>> (v3 &&& 31)) &&& 1)])) (S' := (am_sh, hx, w.1, w.2)) rfl ?_
      refine am_Rn.ite am_h234 (c := ((v1 >>> (v3 &&& 31)) &&& 1) = 1) (t := 27) (f := 49) (lv := [(0, .ref 83), (1, .int v1), (2, .int v2), (3, .int v3), (4, .int v4)]) (st := []) (S' := (am_sh, hx, w.1, w.2)) rfl hp (fun hc3 hp => ?_) (fun hc3 hp => ?_)
      · refine am_Rn.run am_h234 6 (F' := (34, [(0, .ref 83), (1, .int v1), (2, .int v2), (3, .int v3), (4, .int v4)], [.int 1, .int ((v2 >>> (v4 &&& 31)) &&& 1)])) (S' := (am_sh, hx, w.1, w.2)) rfl ?_
        refine am_Rn.ite am_h234 (c := ((v2 >>> (v4 &&& 31)) &&& 1) = 1) (t := 37) (f := 49) (lv := [(0, .ref 83), (1, .int v1), (2, .int v2), (3, .int v3), (4, .int v4)]) (st := []) (S' := (am_sh, hx, w.1, w.2)) rfl hp (fun hc4 hp => ?_) (fun hc4 hp => ?_)
        · refine am_Rn.run am_h234 3 (F' := (41, [(0, .ref 83), (1, .int v1), (2, .int v2), (3, .int v3), (4, .int v4)], [.int v4, .int v3, .ref 83])) (S' := (am_sh, hx, w.1, w.2)) rfl ?_
          obtain ⟨r5, h_r5, hp⟩ := am_bind hp
          refine am_Rn.call am_h234 (mj := 218) (As := [.ref 83, .int v3, .int v4]) (F' := (44, [(0, .ref 83), (1, .int v1), (2, .int v2), (3, .int v3), (4, .int v4)], [])) (M' := am_m218) (r := some (.int r5)) (S1 := (am_sh, hx, w.1, w.2)) rfl am_h218 rfl (ezM_isAhead (by omega) v3 v4 w _ h_r5) ?_
          refine am_Rn.ite am_h234 (c := r5 = 0) (t := 49) (f := 47) (lv := [(0, .ref 83), (1, .int v1), (2, .int v2), (3, .int v3), (4, .int v4)]) (st := []) (S' := (am_sh, hx, w.1, w.2)) rfl hp (fun hc6 hp => ?_) (fun hc6 hp => ?_)
          · refine am_Rn.run am_h234 2 (F' := (11, [(4, .int (v4 + 1)), (0, .ref 83), (1, .int v1), (2, .int v2), (3, .int v3)], [])) (S' := (am_sh, hx, w.1, w.2)) rfl ?_
            refine am_Rn.sub [1, 2, 3, 4, 0] rfl rfl ?_
            exact ezM_crossing_L11 hd R k2 hk2 n v1 v2 v3 (v4 + 1) w hp
          · refine am_Rn.run am_h234 1 (F' := (48, [(0, .ref 83), (1, .int v1), (2, .int v2), (3, .int v3), (4, .int v4)], [.int 1])) (S' := (am_sh, hx, w.1, w.2)) rfl ?_
            cases hp
            exact am_Rn.ret am_h234 rfl
        · refine am_Rn.run am_h234 2 (F' := (11, [(4, .int (v4 + 1)), (0, .ref 83), (1, .int v1), (2, .int v2), (3, .int v3)], [])) (S' := (am_sh, hx, w.1, w.2)) rfl ?_
          refine am_Rn.sub [1, 2, 3, 4, 0] rfl rfl ?_
          exact ezM_crossing_L11 hd R k2 hk2 n v1 v2 v3 (v4 + 1) w hp
      · refine am_Rn.run am_h234 2 (F' := (11, [(4, .int (v4 + 1)), (0, .ref 83), (1, .int v1), (2, .int v2), (3, .int v3)], [])) (S' := (am_sh, hx, w.1, w.2)) rfl ?_
        refine am_Rn.sub [1, 2, 3, 4, 0] rfl rfl ?_
        exact ezM_crossing_L11 hd R k2 hk2 n v1 v2 v3 (v4 + 1) w hp
    · refine am_Rn.run am_h234 2 (F' := (2, [(3, .int (v3 + 1)), (0, .ref 83), (1, .int v1), (2, .int v2), (4, .int v4)], [])) (S' := (am_sh, hx, w.1, w.2)) rfl ?_
      refine am_Rn.sub [1, 2, 3, 0] rfl rfl ?_
      exact hk2 v1 v2 (v3 + 1) w hp
def zM_crossing_L2 : Nat → Int32 → Int32 → Int32 → zHM → Option (Int32)
  | 0, _, _, _, _ => none
  | n + 1, v1, v2, v3, w => if v3 < 6 then (zM_crossing_L11 (fun v1 v2 v3 w => zM_crossing_L2 n v1 v2 v3 w) am_N v1 v2 v3 0 w) else (some 0)
set_option maxRecDepth 20000 in
theorem ezM_crossing_L2 {d : Nat} (hd : 2 ≤ d) (R : Int32) : ∀ (n : Nat) (v1 : Int32) (v2 : Int32) (v3 : Int32) (w : zHM), zM_crossing_L2 n v1 v2 v3 w = some R → am_Rn 83 Xs am_P d 234 (2, [(0, .ref 83), (1, .int v1), (2, .int v2), (3, .int v3)], []) (am_sh, hx, w.1, w.2) (some (.int R), (am_sh, hx, w.1, w.2))
  | 0, _, _, _, _, hp => by cases hp
  | n + 1, v1, v2, v3, w, hp => by
    obtain ⟨d, rfl⟩ : ∃ k, d = k + 1 := ⟨d - 1, by omega⟩
    unfold zM_crossing_L2 at hp
    refine am_Rn.run am_h234 2 (F' := (5, [(0, .ref 83), (1, .int v1), (2, .int v2), (3, .int v3)], [.int 6, .int v3])) (S' := (am_sh, hx, w.1, w.2)) rfl ?_
    refine am_Rn.ite am_h234 (c := v3 < 6) (t := 8) (f := 61) (lv := [(0, .ref 83), (1, .int v1), (2, .int v2), (3, .int v3)]) (st := []) (S' := (am_sh, hx, w.1, w.2)) rfl hp (fun hc1 hp => ?_) (fun hc1 hp => ?_)
    · refine am_Rn.run am_h234 2 (F' := (11, [(4, .int 0), (0, .ref 83), (1, .int v1), (2, .int v2), (3, .int v3)], [])) (S' := (am_sh, hx, w.1, w.2)) rfl ?_
      refine am_Rn.sub [1, 2, 3, 4, 0] rfl rfl ?_
      exact ezM_crossing_L11 hd R (fun v1 v2 v3 w => zM_crossing_L2 n v1 v2 v3 w) (fun v1 v2 v3 w hp => ezM_crossing_L2 hd R n v1 v2 v3 w hp) am_N v1 v2 v3 0 w hp
    · refine am_Rn.run am_h234 1 (F' := (62, [(0, .ref 83), (1, .int v1), (2, .int v2), (3, .int v3)], [.int 0])) (S' := (am_sh, hx, w.1, w.2)) rfl ?_
      cases hp
      exact am_Rn.ret am_h234 rfl
def zM_crossing (v1 : Int32) (v2 : Int32) (w : zHM) : Option (Int32) := zM_crossing_L2 am_N v1 v2 0 w
set_option maxRecDepth 20000 in
theorem ezM_crossing {d : Nat} (hd : 2 ≤ d) (v1 : Int32) (v2 : Int32) (w : zHM) (R : Int32) (hp : zM_crossing v1 v2 w = some R) : am_Ev 83 Xs am_P d 234 [.ref 83, .int v1, .int v2] (am_sh, hx, w.1, w.2) (some (.int R), (am_sh, hx, w.1, w.2)) := by
  obtain ⟨d, rfl⟩ : ∃ k, d = k + 1 := ⟨d - 1, by omega⟩
  unfold zM_crossing at hp
  show am_Rn 83 Xs am_P _ 234 (0, [(0, .ref 83), (1, .int v1), (2, .int v2)], []) _ _
  refine am_Rn.run am_h234 2 (F' := (2, [(3, .int 0), (0, .ref 83), (1, .int v1), (2, .int v2)], [])) (S' := (am_sh, hx, w.1, w.2)) rfl ?_
  refine am_Rn.sub [1, 2, 3, 0] rfl rfl ?_
  exact ezM_crossing_L2 hd R am_N v1 v2 0 w hp
/-- SixHandsModel.isWay(I)Z [83] -/
def zM_isWay_L60 (k15 : Int32 → Int32 → Int32 → Int32 → zHM → Option (Int32)) : Nat → Int32 → Int32 → Int32 → Int32 → Int32 → zHM → Option (Int32)
  | 0, _, _, _, _, _, _ => none
  | n + 1, v1, v2, v3, v4, v5, w => if v5 < (w.1 84 1) then (am_ix 7 v4 (if (w.1 96 (v4.toNatClampNeg)) = 0 then (zM_isWay_L60 k15 n v1 v2 v3 v4 (v5 + 1) w) else (am_ix 7 v5 (if (w.1 96 (v5.toNatClampNeg)) = 0 then (zM_isWay_L60 k15 n v1 v2 v3 v4 (v5 + 1) w) else ((zM_placeOf v1 v4 w).bind fun r15 => (zM_placeOf v1 v5 w).bind fun r16 => if r16 < r15 then (am_ix 7 v4 (am_ix 7 v5 ((zM_crossing (w.1 96 (v4.toNatClampNeg)) (w.1 96 (v5.toNatClampNeg)) w).bind fun r20 => if r20 = 0 then (zM_isWay_L60 k15 n v1 v2 v3 v4 (v5 + 1) w) else (some 0)))) else (zM_isWay_L60 k15 n v1 v2 v3 v4 (v5 + 1) w)))))) else (k15 v1 v2 v3 (v4 + 1) w)
set_option maxRecDepth 20000 in
theorem ezM_isWay_L60 {d : Nat} (hd : 3 ≤ d) (R : Int32) (k15 : Int32 → Int32 → Int32 → Int32 → zHM → Option (Int32)) (hk15 : ∀ (v1 : Int32) (v2 : Int32) (v3 : Int32) (v4 : Int32) (w : zHM), k15 v1 v2 v3 v4 w = some R → am_Rn 83 Xs am_P d 233 (15, [(0, .ref 83), (1, .int v1), (2, .int v2), (3, .int v3), (4, .int v4)], []) (am_sh, hx, w.1, w.2) (some (.int R), (am_sh, hx, w.1, w.2))) : ∀ (n : Nat) (v1 : Int32) (v2 : Int32) (v3 : Int32) (v4 : Int32) (v5 : Int32) (w : zHM), zM_isWay_L60 k15 n v1 v2 v3 v4 v5 w = some R → am_Rn 83 Xs am_P d 233 (60, [(0, .ref 83), (1, .int v1), (2, .int v2), (3, .int v3), (4, .int v4), (5, .int v5)], []) (am_sh, hx, w.1, w.2) (some (.int R), (am_sh, hx, w.1, w.2))
  | 0, _, _, _, _, _, _, hp => by cases hp
  | n + 1, v1, v2, v3, v4, v5, w, hp => by
    obtain ⟨d, rfl⟩ : ∃ k, d = k + 1 := ⟨d - 1, by omega⟩
    unfold zM_isWay_L60 at hp
    refine am_Rn.run am_h233 5 (F' := (68, [(0, .ref 83), (1, .int v1), (2, .int v2), (3, .int v3), (4, .int v4), (5, .int v5)], [.int (w.1 84 1), .int v5])) (S' := (am_sh, hx, w.1, w.2)) rfl ?_
    refine am_Rn.ite am_h233 (c := v5 < (w.1 84 1)) (t := 71) (f := 137) (lv := [(0, .ref 83), (1, .int v1), (2, .int v2), (3, .int v3), (4, .int v4), (5, .int v5)]) (st := []) (S' := (am_sh, hx, w.1, w.2)) rfl hp (fun hc10 hp => ?_) (fun hc10 hp => ?_)
    · refine am_Rn.run am_h233 3 (F' := (77, [(0, .ref 83), (1, .int v1), (2, .int v2), (3, .int v3), (4, .int v4), (5, .int v5)], [.int v4, .ref 96])) (S' := (am_sh, hx, w.1, w.2)) rfl ?_
      obtain ⟨hn11, hp⟩ := am_ix_e hp
      refine am_Rn.stepG am_h233 (c := v4 < 0 ∨ 7 ≤ v4.toNatClampNeg) (F' := (78, [(0, .ref 83), (1, .int v1), (2, .int v2), (3, .int v3), (4, .int v4), (5, .int v5)], [.int (w.1 96 (v4.toNatClampNeg))])) (S' := (am_sh, hx, w.1, w.2)) rfl hn11 ?_
      refine am_Rn.ite am_h233 (c := (w.1 96 (v4.toNatClampNeg)) = 0) (t := 131) (f := 81) (lv := [(0, .ref 83), (1, .int v1), (2, .int v2), (3, .int v3), (4, .int v4), (5, .int v5)]) (st := []) (S' := (am_sh, hx, w.1, w.2)) rfl hp (fun hc12 hp => ?_) (fun hc12 hp => ?_)
      · refine am_Rn.run am_h233 2 (F' := (60, [(5, .int (v5 + 1)), (0, .ref 83), (1, .int v1), (2, .int v2), (3, .int v3), (4, .int v4)], [])) (S' := (am_sh, hx, w.1, w.2)) rfl ?_
        refine am_Rn.sub [1, 2, 3, 4, 5, 0] rfl rfl ?_
        exact ezM_isWay_L60 hd R k15 hk15 n v1 v2 v3 v4 (v5 + 1) w hp
      · refine am_Rn.run am_h233 3 (F' := (87, [(0, .ref 83), (1, .int v1), (2, .int v2), (3, .int v3), (4, .int v4), (5, .int v5)], [.int v5, .ref 96])) (S' := (am_sh, hx, w.1, w.2)) rfl ?_
        obtain ⟨hn13, hp⟩ := am_ix_e hp
        refine am_Rn.stepG am_h233 (c := v5 < 0 ∨ 7 ≤ v5.toNatClampNeg) (F' := (88, [(0, .ref 83), (1, .int v1), (2, .int v2), (3, .int v3), (4, .int v4), (5, .int v5)], [.int (w.1 96 (v5.toNatClampNeg))])) (S' := (am_sh, hx, w.1, w.2)) rfl hn13 ?_
        refine am_Rn.ite am_h233 (c := (w.1 96 (v5.toNatClampNeg)) = 0) (t := 131) (f := 91) (lv := [(0, .ref 83), (1, .int v1), (2, .int v2), (3, .int v3), (4, .int v4), (5, .int v5)]) (st := []) (S' := (am_sh, hx, w.1, w.2)) rfl hp (fun hc14 hp => ?_) (fun hc14 hp => ?_)
        · refine am_Rn.run am_h233 2 (F' := (60, [(5, .int (v5 + 1)), (0, .ref 83), (1, .int v1), (2, .int v2), (3, .int v3), (4, .int v4)], [])) (S' := (am_sh, hx, w.1, w.2)) rfl ?_
          refine am_Rn.sub [1, 2, 3, 4, 5, 0] rfl rfl ?_
          exact ezM_isWay_L60 hd R k15 hk15 n v1 v2 v3 v4 (v5 + 1) w hp
        · refine am_Rn.run am_h233 3 (F' := (95, [(0, .ref 83), (1, .int v1), (2, .int v2), (3, .int v3), (4, .int v4), (5, .int v5)], [.int v4, .int v1, .ref 83])) (S' := (am_sh, hx, w.1, w.2)) rfl ?_
          obtain ⟨r15, h_r15, hp⟩ := am_bind hp
          refine am_Rn.call am_h233 (mj := 159) (As := [.ref 83, .int v1, .int v4]) (F' := (98, [(0, .ref 83), (1, .int v1), (2, .int v2), (3, .int v3), (4, .int v4), (5, .int v5)], [])) (M' := am_m159) (r := some (.int r15)) (S1 := (am_sh, hx, w.1, w.2)) rfl am_h159 rfl (ezM_placeOf (by omega) v1 v4 w _ h_r15) ?_
          refine am_Rn.run am_h233 3 (F' := (102, [(0, .ref 83), (1, .int v1), (2, .int v2), (3, .int v3), (4, .int v4), (5, .int v5)], [.int v5, .int v1, .ref 83, .int r15])) (S' := (am_sh, hx, w.1, w.2)) rfl ?_
          obtain ⟨r16, h_r16, hp⟩ := am_bind hp
          refine am_Rn.call am_h233 (mj := 159) (As := [.ref 83, .int v1, .int v5]) (F' := (105, [(0, .ref 83), (1, .int v1), (2, .int v2), (3, .int v3), (4, .int v4), (5, .int v5)], [.int r15])) (M' := am_m159) (r := some (.int r16)) (S1 := (am_sh, hx, w.1, w.2)) rfl am_h159 rfl (ezM_placeOf (by omega) v1 v5 w _ h_r16) ?_
          refine am_Rn.ite am_h233 (c := r16 < r15) (t := 108) (f := 131) (lv := [(0, .ref 83), (1, .int v1), (2, .int v2), (3, .int v3), (4, .int v4), (5, .int v5)]) (st := []) (S' := (am_sh, hx, w.1, w.2)) rfl hp (fun hc17 hp => ?_) (fun hc17 hp => ?_)
          · refine am_Rn.run am_h233 4 (F' := (115, [(0, .ref 83), (1, .int v1), (2, .int v2), (3, .int v3), (4, .int v4), (5, .int v5)], [.int v4, .ref 96, .ref 83])) (S' := (am_sh, hx, w.1, w.2)) rfl ?_
            obtain ⟨hn18, hp⟩ := am_ix_e hp
            refine am_Rn.stepG am_h233 (c := v4 < 0 ∨ 7 ≤ v4.toNatClampNeg) (F' := (116, [(0, .ref 83), (1, .int v1), (2, .int v2), (3, .int v3), (4, .int v4), (5, .int v5)], [.int (w.1 96 (v4.toNatClampNeg)), .ref 83])) (S' := (am_sh, hx, w.1, w.2)) rfl hn18 ?_
            refine am_Rn.run am_h233 3 (F' := (122, [(0, .ref 83), (1, .int v1), (2, .int v2), (3, .int v3), (4, .int v4), (5, .int v5)], [.int v5, .ref 96, .int (w.1 96 (v4.toNatClampNeg)), .ref 83])) (S' := (am_sh, hx, w.1, w.2)) rfl ?_
            obtain ⟨hn19, hp⟩ := am_ix_e hp
            refine am_Rn.stepG am_h233 (c := v5 < 0 ∨ 7 ≤ v5.toNatClampNeg) (F' := (123, [(0, .ref 83), (1, .int v1), (2, .int v2), (3, .int v3), (4, .int v4), (5, .int v5)], [.int (w.1 96 (v5.toNatClampNeg)), .int (w.1 96 (v4.toNatClampNeg)), .ref 83])) (S' := (am_sh, hx, w.1, w.2)) rfl hn19 ?_
            obtain ⟨r20, h_r20, hp⟩ := am_bind hp
            refine am_Rn.call am_h233 (mj := 234) (As := [.ref 83, .int (w.1 96 (v4.toNatClampNeg)), .int (w.1 96 (v5.toNatClampNeg))]) (F' := (126, [(0, .ref 83), (1, .int v1), (2, .int v2), (3, .int v3), (4, .int v4), (5, .int v5)], [])) (M' := am_m234) (r := some (.int r20)) (S1 := (am_sh, hx, w.1, w.2)) rfl am_h234 rfl (ezM_crossing (by omega) (w.1 96 (v4.toNatClampNeg)) (w.1 96 (v5.toNatClampNeg)) w _ h_r20) ?_
            refine am_Rn.ite am_h233 (c := r20 = 0) (t := 131) (f := 129) (lv := [(0, .ref 83), (1, .int v1), (2, .int v2), (3, .int v3), (4, .int v4), (5, .int v5)]) (st := []) (S' := (am_sh, hx, w.1, w.2)) rfl hp (fun hc21 hp => ?_) (fun hc21 hp => ?_)
            · refine am_Rn.run am_h233 2 (F' := (60, [(5, .int (v5 + 1)), (0, .ref 83), (1, .int v1), (2, .int v2), (3, .int v3), (4, .int v4)], [])) (S' := (am_sh, hx, w.1, w.2)) rfl ?_
              refine am_Rn.sub [1, 2, 3, 4, 5, 0] rfl rfl ?_
              exact ezM_isWay_L60 hd R k15 hk15 n v1 v2 v3 v4 (v5 + 1) w hp
            · refine am_Rn.run am_h233 1 (F' := (130, [(0, .ref 83), (1, .int v1), (2, .int v2), (3, .int v3), (4, .int v4), (5, .int v5)], [.int 0])) (S' := (am_sh, hx, w.1, w.2)) rfl ?_
              cases hp
              exact am_Rn.ret am_h233 rfl
          · refine am_Rn.run am_h233 2 (F' := (60, [(5, .int (v5 + 1)), (0, .ref 83), (1, .int v1), (2, .int v2), (3, .int v3), (4, .int v4)], [])) (S' := (am_sh, hx, w.1, w.2)) rfl ?_
            refine am_Rn.sub [1, 2, 3, 4, 5, 0] rfl rfl ?_
            exact ezM_isWay_L60 hd R k15 hk15 n v1 v2 v3 v4 (v5 + 1) w hp
    · refine am_Rn.run am_h233 2 (F' := (15, [(4, .int (v4 + 1)), (0, .ref 83), (1, .int v1), (2, .int v2), (3, .int v3), (5, .int v5)], [])) (S' := (am_sh, hx, w.1, w.2)) rfl ?_
      refine am_Rn.sub [1, 2, 3, 4, 0] rfl rfl ?_
      exact hk15 v1 v2 v3 (v4 + 1) w hp
def zM_isWay_J42 (k15 : Int32 → Int32 → Int32 → Int32 → zHM → Option (Int32)) (v1 : Int32) (v3 : Int32) (v4 : Int32) (s0 : Int32) (s1 : Int32) (w : zHM) : Option (Int32) := am_b (s0 + s1) fun x6 => am_ix 7 v4 ((zM_bits (w.1 96 (v4.toNatClampNeg))).bind fun r8 => am_b (v3 - r8) fun x9 => zM_isWay_L60 k15 am_N v1 x6 x9 v4 0 w)
set_option maxRecDepth 20000 in
theorem ezM_isWay_J42 {d : Nat} (hd : 3 ≤ d) (R : Int32) (k15 : Int32 → Int32 → Int32 → Int32 → zHM → Option (Int32)) (hk15 : ∀ (v1 : Int32) (v2 : Int32) (v3 : Int32) (v4 : Int32) (w : zHM), k15 v1 v2 v3 v4 w = some R → am_Rn 83 Xs am_P d 233 (15, [(0, .ref 83), (1, .int v1), (2, .int v2), (3, .int v3), (4, .int v4)], []) (am_sh, hx, w.1, w.2) (some (.int R), (am_sh, hx, w.1, w.2))) (v1 : Int32) (v3 : Int32) (v4 : Int32) (s0 : Int32) (s1 : Int32) (w : zHM) (hp : zM_isWay_J42 k15 v1 v3 v4 s0 s1 w = some R) : am_Rn 83 Xs am_P d 233 (42, [(0, .ref 83), (1, .int v1), (3, .int v3), (4, .int v4)], [.int s1, .int s0]) (am_sh, hx, w.1, w.2) (some (.int R), (am_sh, hx, w.1, w.2)) := by
  obtain ⟨d, rfl⟩ : ∃ k, d = k + 1 := ⟨d - 1, by omega⟩
  unfold zM_isWay_J42 at hp
  obtain ⟨x6, h_x6, hp⟩ := am_b_e hp
  refine am_Rn.run am_h233 6 (F' := (51, [(2, .int x6), (0, .ref 83), (1, .int v1), (3, .int v3), (4, .int v4)], [.int v4, .ref 96, .int v3])) (S' := (am_sh, hx, w.1, w.2)) (by subst h_x6; rfl) ?_
  obtain ⟨hn7, hp⟩ := am_ix_e hp
  refine am_Rn.stepG am_h233 (c := v4 < 0 ∨ 7 ≤ v4.toNatClampNeg) (F' := (52, [(2, .int x6), (0, .ref 83), (1, .int v1), (3, .int v3), (4, .int v4)], [.int (w.1 96 (v4.toNatClampNeg)), .int v3])) (S' := (am_sh, hx, w.1, w.2)) rfl hn7 ?_
  obtain ⟨r8, h_r8, hp⟩ := am_bind hp
  refine am_Rn.call am_h233 (mj := 161) (As := [.int (w.1 96 (v4.toNatClampNeg))]) (F' := (55, [(2, .int x6), (0, .ref 83), (1, .int v1), (3, .int v3), (4, .int v4)], [.int v3])) (M' := am_m161) (r := some (.int r8)) (S1 := (am_sh, hx, w.1, w.2)) rfl am_h161 rfl (ezM_bits (by omega) (w.1 96 (v4.toNatClampNeg)) _ h_r8) ?_
  obtain ⟨x9, h_x9, hp⟩ := am_b_e hp
  refine am_Rn.run am_h233 4 (F' := (60, [(5, .int 0), (3, .int x9), (2, .int x6), (0, .ref 83), (1, .int v1), (4, .int v4)], [])) (S' := (am_sh, hx, w.1, w.2)) (by subst h_x9; rfl) ?_
  refine am_Rn.sub [3, 4, 2, 1, 5, 0] rfl rfl ?_
  exact ezM_isWay_L60 hd R k15 hk15 am_N v1 x6 x9 v4 0 w hp
def zM_isWay_L15 : Nat → Int32 → Int32 → Int32 → Int32 → zHM → Option (Int32)
  | 0, _, _, _, _, _ => none
  | n + 1, v1, v2, v3, v4, w => if v4 < (w.1 84 1) then ((zM_isThere v1 v4 w).bind fun r4 => if r4 = 0 then (zM_isWay_J42 (fun v1 v2 v3 v4 w => zM_isWay_L15 n v1 v2 v3 v4 w) v1 v3 v4 v2 1 w) else (zM_isWay_J42 (fun v1 v2 v3 v4 w => zM_isWay_L15 n v1 v2 v3 v4 w) v1 v3 v4 v2 0 w)) else (if v3 < (v2 - (w.1 84 2)) then (some 0) else (some 1))
set_option maxRecDepth 20000 in
theorem ezM_isWay_L15 {d : Nat} (hd : 3 ≤ d) (R : Int32) : ∀ (n : Nat) (v1 : Int32) (v2 : Int32) (v3 : Int32) (v4 : Int32) (w : zHM), zM_isWay_L15 n v1 v2 v3 v4 w = some R → am_Rn 83 Xs am_P d 233 (15, [(0, .ref 83), (1, .int v1), (2, .int v2), (3, .int v3), (4, .int v4)], []) (am_sh, hx, w.1, w.2) (some (.int R), (am_sh, hx, w.1, w.2))
  | 0, _, _, _, _, _, hp => by cases hp
  | n + 1, v1, v2, v3, v4, w, hp => by
    obtain ⟨d, rfl⟩ : ∃ k, d = k + 1 := ⟨d - 1, by omega⟩
    unfold zM_isWay_L15 at hp
    refine am_Rn.run am_h233 5 (F' := (23, [(0, .ref 83), (1, .int v1), (2, .int v2), (3, .int v3), (4, .int v4)], [.int (w.1 84 1), .int v4])) (S' := (am_sh, hx, w.1, w.2)) rfl ?_
    refine am_Rn.ite am_h233 (c := v4 < (w.1 84 1)) (t := 26) (f := 143) (lv := [(0, .ref 83), (1, .int v1), (2, .int v2), (3, .int v3), (4, .int v4)]) (st := []) (S' := (am_sh, hx, w.1, w.2)) rfl hp (fun hc3 hp => ?_) (fun hc3 hp => ?_)
    · refine am_Rn.run am_h233 4 (F' := (31, [(0, .ref 83), (1, .int v1), (2, .int v2), (3, .int v3), (4, .int v4)], [.int v4, .int v1, .ref 83, .int v2])) (S' := (am_sh, hx, w.1, w.2)) rfl ?_
      obtain ⟨r4, h_r4, hp⟩ := am_bind hp
      refine am_Rn.call am_h233 (mj := 230) (As := [.ref 83, .int v1, .int v4]) (F' := (34, [(0, .ref 83), (1, .int v1), (2, .int v2), (3, .int v3), (4, .int v4)], [.int v2])) (M' := am_m230) (r := some (.int r4)) (S1 := (am_sh, hx, w.1, w.2)) rfl am_h230 rfl (ezM_isThere (by omega) v1 v4 w _ h_r4) ?_
      refine am_Rn.ite am_h233 (c := r4 = 0) (t := 41) (f := 37) (lv := [(0, .ref 83), (1, .int v1), (2, .int v2), (3, .int v3), (4, .int v4)]) (st := [.int v2]) (S' := (am_sh, hx, w.1, w.2)) rfl hp (fun hc5 hp => ?_) (fun hc5 hp => ?_)
      · refine am_Rn.run am_h233 1 (F' := (42, [(0, .ref 83), (1, .int v1), (2, .int v2), (3, .int v3), (4, .int v4)], [.int 1, .int v2])) (S' := (am_sh, hx, w.1, w.2)) rfl ?_
        refine am_Rn.sub [0, 1, 3, 4] rfl rfl ?_
        exact ezM_isWay_J42 hd R (fun v1 v2 v3 v4 w => zM_isWay_L15 n v1 v2 v3 v4 w) (fun v1 v2 v3 v4 w hp => ezM_isWay_L15 hd R n v1 v2 v3 v4 w hp) v1 v3 v4 v2 1 w hp
      · refine am_Rn.run am_h233 2 (F' := (42, [(0, .ref 83), (1, .int v1), (2, .int v2), (3, .int v3), (4, .int v4)], [.int 0, .int v2])) (S' := (am_sh, hx, w.1, w.2)) rfl ?_
        refine am_Rn.sub [0, 1, 3, 4] rfl rfl ?_
        exact ezM_isWay_J42 hd R (fun v1 v2 v3 v4 w => zM_isWay_L15 n v1 v2 v3 v4 w) (fun v1 v2 v3 v4 w hp => ezM_isWay_L15 hd R n v1 v2 v3 v4 w hp) v1 v3 v4 v2 0 w hp
    · refine am_Rn.run am_h233 7 (F' := (152, [(0, .ref 83), (1, .int v1), (2, .int v2), (3, .int v3), (4, .int v4)], [.int v3, .int (v2 - (w.1 84 2))])) (S' := (am_sh, hx, w.1, w.2)) rfl ?_
      refine am_Rn.ite am_h233 (c := v3 < (v2 - (w.1 84 2))) (t := 159) (f := 155) (lv := [(0, .ref 83), (1, .int v1), (2, .int v2), (3, .int v3), (4, .int v4)]) (st := []) (S' := (am_sh, hx, w.1, w.2)) rfl hp (fun hc22 hp => ?_) (fun hc22 hp => ?_)
      · refine am_Rn.run am_h233 1 (F' := (160, [(0, .ref 83), (1, .int v1), (2, .int v2), (3, .int v3), (4, .int v4)], [.int 0])) (S' := (am_sh, hx, w.1, w.2)) rfl ?_
        cases hp
        exact am_Rn.ret am_h233 rfl
      · refine am_Rn.run am_h233 2 (F' := (160, [(0, .ref 83), (1, .int v1), (2, .int v2), (3, .int v3), (4, .int v4)], [.int 1])) (S' := (am_sh, hx, w.1, w.2)) rfl ?_
        cases hp
        exact am_Rn.ret am_h233 rfl
def zM_isWay (v1 : Int32) (w : zHM) : Option (Int32) := (zM_bits (w.1 83 30)).bind fun r1 => am_b (2 * r1) fun x2 => zM_isWay_L15 am_N v1 0 x2 0 w
set_option maxRecDepth 20000 in
theorem ezM_isWay {d : Nat} (hd : 3 ≤ d) (v1 : Int32) (w : zHM) (R : Int32) (hp : zM_isWay v1 w = some R) : am_Ev 83 Xs am_P d 233 [.ref 83, .int v1] (am_sh, hx, w.1, w.2) (some (.int R), (am_sh, hx, w.1, w.2)) := by
  obtain ⟨d, rfl⟩ : ∃ k, d = k + 1 := ⟨d - 1, by omega⟩
  unfold zM_isWay at hp
  show am_Rn 83 Xs am_P _ 233 (0, [(0, .ref 83), (1, .int v1)], []) _ _
  refine am_Rn.run am_h233 5 (F' := (7, [(2, .int 0), (0, .ref 83), (1, .int v1)], [.int (w.1 83 30), .int 2])) (S' := (am_sh, hx, w.1, w.2)) rfl ?_
  obtain ⟨r1, h_r1, hp⟩ := am_bind hp
  refine am_Rn.call am_h233 (mj := 161) (As := [.int (w.1 83 30)]) (F' := (10, [(2, .int 0), (0, .ref 83), (1, .int v1)], [.int 2])) (M' := am_m161) (r := some (.int r1)) (S1 := (am_sh, hx, w.1, w.2)) rfl am_h161 rfl (ezM_bits (by omega) (w.1 83 30) _ h_r1) ?_
  obtain ⟨x2, h_x2, hp⟩ := am_b_e hp
  refine am_Rn.run am_h233 4 (F' := (15, [(4, .int 0), (3, .int x2), (2, .int 0), (0, .ref 83), (1, .int v1)], [])) (S' := (am_sh, hx, w.1, w.2)) (by subst h_x2; rfl) ?_
  refine am_Rn.sub [3, 4, 2, 1, 0] rfl rfl ?_
  exact ezM_isWay_L15 hd R am_N v1 0 x2 0 w hp
/-- SixHandsModel.layWay(I)V [83] -/
def zM_layWay_L18 : Nat → Int32 → Int32 → Int32 → zHM → Option (zHM)
  | 0, _, _, _, _ => none
  | n + 1, v1, v2, v3, w => if v3 < 6 then (am_ix 7 v3 (am_ix 103680 (v2 + v3) (am_b ((va_up w.1 92 (upd (w.1 92) ((v2 + v3).toNatClampNeg) (w.1 96 (v3.toNatClampNeg))), w.2)) fun w6 => zM_layWay_L18 n v1 v2 (v3 + 1) w6))) else (am_ix 24 v1 (am_ix 24 v1 (am_b ((va_up w.1 93 (upd (w.1 93) (v1.toNatClampNeg) ((w.1 93 (v1.toNatClampNeg)) + 1)), w.2)) fun w9 => some w9)))
set_option maxRecDepth 20000 in
theorem ezM_layWay_L18 {d : Nat} (hd : 0 ≤ d) (R : zHM) : ∀ (n : Nat) (v1 : Int32) (v2 : Int32) (v3 : Int32) (w : zHM), zM_layWay_L18 n v1 v2 v3 w = some R → am_Rn 83 Xs am_P d 238 (18, [(0, .ref 83), (1, .int v1), (2, .int v2), (3, .int v3)], []) (am_sh, hx, w.1, w.2) (none, (am_sh, hx, R.1, R.2))
  | 0, _, _, _, _, hp => by cases hp
  | n + 1, v1, v2, v3, w, hp => by
    unfold zM_layWay_L18 at hp
    refine am_Rn.run am_h238 2 (F' := (21, [(0, .ref 83), (1, .int v1), (2, .int v2), (3, .int v3)], [.int 6, .int v3])) (S' := (am_sh, hx, w.1, w.2)) rfl ?_
    refine am_Rn.ite am_h238 (c := v3 < 6) (t := 24) (f := 44) (lv := [(0, .ref 83), (1, .int v1), (2, .int v2), (3, .int v3)]) (st := []) (S' := (am_sh, hx, w.1, w.2)) rfl hp (fun hc3 hp => ?_) (fun hc3 hp => ?_)
    · refine am_Rn.run am_h238 8 (F' := (36, [(0, .ref 83), (1, .int v1), (2, .int v2), (3, .int v3)], [.int v3, .ref 96, .int (v2 + v3), .ref 92])) (S' := (am_sh, hx, w.1, w.2)) rfl ?_
      obtain ⟨hn4, hp⟩ := am_ix_e hp
      refine am_Rn.stepG am_h238 (c := v3 < 0 ∨ 7 ≤ v3.toNatClampNeg) (F' := (37, [(0, .ref 83), (1, .int v1), (2, .int v2), (3, .int v3)], [.int (w.1 96 (v3.toNatClampNeg)), .int (v2 + v3), .ref 92])) (S' := (am_sh, hx, w.1, w.2)) rfl hn4 ?_
      obtain ⟨hn5, hp⟩ := am_ix_e hp
      obtain ⟨w6, h_w6, hp⟩ := am_b_e hp
      refine am_Rn.stepG am_h238 (c := (v2 + v3) < 0 ∨ 103680 ≤ (v2 + v3).toNatClampNeg) (F' := (38, [(0, .ref 83), (1, .int v1), (2, .int v2), (3, .int v3)], [])) (S' := (am_sh, hx, w6.1, w6.2)) (by subst h_w6; rfl) hn5 ?_
      refine am_Rn.run am_h238 2 (F' := (18, [(3, .int (v3 + 1)), (0, .ref 83), (1, .int v1), (2, .int v2)], [])) (S' := (am_sh, hx, w6.1, w6.2)) rfl ?_
      refine am_Rn.sub [1, 2, 3, 0] rfl rfl ?_
      exact ezM_layWay_L18 hd R n v1 v2 (v3 + 1) w6 hp
    · refine am_Rn.run am_h238 4 (F' := (50, [(0, .ref 83), (1, .int v1), (2, .int v2), (3, .int v3)], [.int v1, .ref 93, .int v1, .ref 93])) (S' := (am_sh, hx, w.1, w.2)) rfl ?_
      obtain ⟨hn7, hp⟩ := am_ix_e hp
      refine am_Rn.stepG am_h238 (c := v1 < 0 ∨ 24 ≤ v1.toNatClampNeg) (F' := (51, [(0, .ref 83), (1, .int v1), (2, .int v2), (3, .int v3)], [.int (w.1 93 (v1.toNatClampNeg)), .int v1, .ref 93])) (S' := (am_sh, hx, w.1, w.2)) rfl hn7 ?_
      refine am_Rn.run am_h238 2 (F' := (53, [(0, .ref 83), (1, .int v1), (2, .int v2), (3, .int v3)], [.int ((w.1 93 (v1.toNatClampNeg)) + 1), .int v1, .ref 93])) (S' := (am_sh, hx, w.1, w.2)) rfl ?_
      obtain ⟨hn8, hp⟩ := am_ix_e hp
      obtain ⟨w9, h_w9, hp⟩ := am_b_e hp
      refine am_Rn.stepG am_h238 (c := v1 < 0 ∨ 24 ≤ v1.toNatClampNeg) (F' := (54, [(0, .ref 83), (1, .int v1), (2, .int v2), (3, .int v3)], [])) (S' := (am_sh, hx, w9.1, w9.2)) (by subst h_w9; rfl) hn8 ?_
      cases hp
      exact am_Rn.ret am_h238 rfl
def zM_layWay (v1 : Int32) (w : zHM) : Option (zHM) := am_ix 24 v1 (am_b (6 * ((720 * v1) + (w.1 93 (v1.toNatClampNeg)))) fun x2 => zM_layWay_L18 am_N v1 x2 0 w)
set_option maxRecDepth 20000 in
theorem ezM_layWay {d : Nat} (hd : 0 ≤ d) (v1 : Int32) (w : zHM) (R : zHM) (hp : zM_layWay v1 w = some R) : am_Ev 83 Xs am_P d 238 [.ref 83, .int v1] (am_sh, hx, w.1, w.2) (none, (am_sh, hx, R.1, R.2)) := by
  unfold zM_layWay at hp
  show am_Rn 83 Xs am_P _ 238 (0, [(0, .ref 83), (1, .int v1)], []) _ _
  refine am_Rn.run am_h238 7 (F' := (12, [(0, .ref 83), (1, .int v1)], [.int v1, .ref 93, .int (720 * v1), .int 6])) (S' := (am_sh, hx, w.1, w.2)) rfl ?_
  obtain ⟨hn1, hp⟩ := am_ix_e hp
  refine am_Rn.stepG am_h238 (c := v1 < 0 ∨ 24 ≤ v1.toNatClampNeg) (F' := (13, [(0, .ref 83), (1, .int v1)], [.int (w.1 93 (v1.toNatClampNeg)), .int (720 * v1), .int 6])) (S' := (am_sh, hx, w.1, w.2)) rfl hn1 ?_
  obtain ⟨x2, h_x2, hp⟩ := am_b_e hp
  refine am_Rn.run am_h238 5 (F' := (18, [(3, .int 0), (2, .int x2), (0, .ref 83), (1, .int v1)], [])) (S' := (am_sh, hx, w.1, w.2)) (by subst h_x2; rfl) ?_
  refine am_Rn.sub [2, 3, 1, 0] rfl rfl ?_
  exact ezM_layWay_L18 hd R am_N v1 x2 0 w hp
/-- SixHandsModel.next(I)I [83] -/
def zM_next (v1 : Int32) (w : zHM) : Option (Int32 × zHM) := am_ix 7 (v1 + 1) (am_b ((va_up w.1 95 (upd (w.1 95) ((v1 + 1).toNatClampNeg) (-1)), w.2)) fun w2 => some ((v1 + 1, w2)))
set_option maxRecDepth 20000 in
theorem ezM_next {d : Nat} (hd : 0 ≤ d) (v1 : Int32) (w : zHM) (R : Int32 × zHM) (hp : zM_next v1 w = some R) : am_Ev 83 Xs am_P d 237 [.ref 83, .int v1] (am_sh, hx, w.1, w.2) (some (.int R.1), (am_sh, hx, R.2.1, R.2.2)) := by
  unfold zM_next at hp
  show am_Rn 83 Xs am_P _ 237 (0, [(0, .ref 83), (1, .int v1)], []) _ _
  refine am_Rn.run am_h237 6 (F' := (8, [(0, .ref 83), (1, .int v1)], [.int (-1), .int (v1 + 1), .ref 95])) (S' := (am_sh, hx, w.1, w.2)) rfl ?_
  obtain ⟨hn1, hp⟩ := am_ix_e hp
  obtain ⟨w2, h_w2, hp⟩ := am_b_e hp
  refine am_Rn.stepG am_h237 (c := (v1 + 1) < 0 ∨ 7 ≤ (v1 + 1).toNatClampNeg) (F' := (9, [(0, .ref 83), (1, .int v1)], [])) (S' := (am_sh, hx, w2.1, w2.2)) (by subst h_w2; rfl) hn1 ?_
  refine am_Rn.run am_h237 3 (F' := (12, [(0, .ref 83), (1, .int v1)], [.int (v1 + 1)])) (S' := (am_sh, hx, w2.1, w2.2)) rfl ?_
  cases hp
  exact am_Rn.ret am_h237 rfl
/-- SixHandsModel.begin(I)I [83] -/
def zM_begin (v1 : Int32) (w : zHM) : Option (Int32 × zHM) := am_ix 7 v1 (am_b ((va_up w.1 95 (upd (w.1 95) (v1.toNatClampNeg) 6), w.2)) fun w2 => (zM_next v1 w2).bind fun r3 => some ((r3.1, r3.2)))
set_option maxRecDepth 20000 in
theorem ezM_begin {d : Nat} (hd : 1 ≤ d) (v1 : Int32) (w : zHM) (R : Int32 × zHM) (hp : zM_begin v1 w = some R) : am_Ev 83 Xs am_P d 236 [.ref 83, .int v1] (am_sh, hx, w.1, w.2) (some (.int R.1), (am_sh, hx, R.2.1, R.2.2)) := by
  obtain ⟨d, rfl⟩ : ∃ k, d = k + 1 := ⟨d - 1, by omega⟩
  unfold zM_begin at hp
  show am_Rn 83 Xs am_P _ 236 (0, [(0, .ref 83), (1, .int v1)], []) _ _
  refine am_Rn.run am_h236 4 (F' := (7, [(0, .ref 83), (1, .int v1)], [.int 6, .int v1, .ref 95])) (S' := (am_sh, hx, w.1, w.2)) rfl ?_
  obtain ⟨hn1, hp⟩ := am_ix_e hp
  obtain ⟨w2, h_w2, hp⟩ := am_b_e hp
  refine am_Rn.stepG am_h236 (c := v1 < 0 ∨ 7 ≤ v1.toNatClampNeg) (F' := (8, [(0, .ref 83), (1, .int v1)], [])) (S' := (am_sh, hx, w2.1, w2.2)) (by subst h_w2; rfl) hn1 ?_
  refine am_Rn.run am_h236 2 (F' := (10, [(0, .ref 83), (1, .int v1)], [.int v1, .ref 83])) (S' := (am_sh, hx, w2.1, w2.2)) rfl ?_
  obtain ⟨r3, h_r3, hp⟩ := am_bind hp
  refine am_Rn.call am_h236 (mj := 237) (As := [.ref 83, .int v1]) (F' := (13, [(0, .ref 83), (1, .int v1)], [])) (M' := am_m237) (r := some (.int r3.1)) (S1 := (am_sh, hx, r3.2.1, r3.2.2)) rfl am_h237 rfl (ezM_next (by omega) v1 w2 _ h_r3) ?_
  cases hp
  exact am_Rn.ret am_h236 rfl
/-- SixHandsModel.holdOf(II)I [83] -/
def zM_holdOf_J16 (v1 : Int32) (v2 : Int32) (s0 : Int32) (w : zHM) : Option (Int32) := if 2 < s0 then (some 0) else (if (((w.1 83 30) >>> (s0 &&& 31)) &&& 1) = 0 then (some 0) else ((zM_kindOf v1 w).bind fun r5 => if r5 = 2 then (some ((3 : Int32) <<< ((2 * v2) &&& 31))) else (some ((1 : Int32) <<< (v2 &&& 31)))))
set_option maxRecDepth 20000 in
theorem ezM_holdOf_J16 {d : Nat} (hd : 1 ≤ d) (R : Int32) (v1 : Int32) (v2 : Int32) (s0 : Int32) (w : zHM) (hp : zM_holdOf_J16 v1 v2 s0 w = some R) : am_Rn 83 Xs am_P d 231 (16, [(0, .ref 83), (1, .int v1), (2, .int v2)], [.int s0]) (am_sh, hx, w.1, w.2) (some (.int R), (am_sh, hx, w.1, w.2)) := by
  obtain ⟨d, rfl⟩ : ∃ k, d = k + 1 := ⟨d - 1, by omega⟩
  unfold zM_holdOf_J16 at hp
  refine am_Rn.run am_h231 3 (F' := (19, [(3, .int s0), (0, .ref 83), (1, .int v1), (2, .int v2)], [.int 2, .int s0])) (S' := (am_sh, hx, w.1, w.2)) rfl ?_
  refine am_Rn.ite am_h231 (c := 2 < s0) (t := 33) (f := 22) (lv := [(3, .int s0), (0, .ref 83), (1, .int v1), (2, .int v2)]) (st := []) (S' := (am_sh, hx, w.1, w.2)) rfl hp (fun hc3 hp => ?_) (fun hc3 hp => ?_)
  · refine am_Rn.run am_h231 1 (F' := (34, [(3, .int s0), (0, .ref 83), (1, .int v1), (2, .int v2)], [.int 0])) (S' := (am_sh, hx, w.1, w.2)) rfl ?_
    cases hp
    exact am_Rn.ret am_h231 rfl
  · refine am_Rn.run am_h231 6 (F' := (30, [(3, .int s0), (0, .ref 83), (1, .int v1), (2, .int v2)], [.int (((w.1 83 30) >>> (s0 &&& 31)) &&& 1)])) (S' := (am_sh, hx, w.1, w.2)) rfl ?_
    refine am_Rn.ite am_h231 (c := (((w.1 83 30) >>> (s0 &&& 31)) &&& 1) = 0) (t := 33) (f := 35) (lv := [(3, .int s0), (0, .ref 83), (1, .int v1), (2, .int v2)]) (st := []) (S' := (am_sh, hx, w.1, w.2)) rfl hp (fun hc4 hp => ?_) (fun hc4 hp => ?_)
    · refine am_Rn.run am_h231 1 (F' := (34, [(3, .int s0), (0, .ref 83), (1, .int v1), (2, .int v2)], [.int 0])) (S' := (am_sh, hx, w.1, w.2)) rfl ?_
      cases hp
      exact am_Rn.ret am_h231 rfl
    · refine am_Rn.run am_h231 2 (F' := (37, [(3, .int s0), (0, .ref 83), (1, .int v1), (2, .int v2)], [.int v1, .ref 83])) (S' := (am_sh, hx, w.1, w.2)) rfl ?_
      obtain ⟨r5, h_r5, hp⟩ := am_bind hp
      refine am_Rn.call am_h231 (mj := 158) (As := [.ref 83, .int v1]) (F' := (40, [(3, .int s0), (0, .ref 83), (1, .int v1), (2, .int v2)], [])) (M' := am_m158) (r := some (.int r5)) (S1 := (am_sh, hx, w.1, w.2)) rfl am_h158 rfl (ezM_kindOf (by omega) v1 w _ h_r5) ?_
      refine am_Rn.run am_h231 1 (F' := (41, [(3, .int s0), (0, .ref 83), (1, .int v1), (2, .int v2)], [.int 2, .int r5])) (S' := (am_sh, hx, w.1, w.2)) rfl ?_
      refine am_Rn.ite am_h231 (c := r5 = 2) (t := 44) (f := 52) (lv := [(3, .int s0), (0, .ref 83), (1, .int v1), (2, .int v2)]) (st := []) (S' := (am_sh, hx, w.1, w.2)) rfl hp (fun hc6 hp => ?_) (fun hc6 hp => ?_)
      · refine am_Rn.run am_h231 6 (F' := (55, [(3, .int s0), (0, .ref 83), (1, .int v1), (2, .int v2)], [.int ((3 : Int32) <<< ((2 * v2) &&& 31))])) (S' := (am_sh, hx, w.1, w.2)) rfl ?_
        cases hp
        exact am_Rn.ret am_h231 rfl
      · refine am_Rn.run am_h231 3 (F' := (55, [(3, .int s0), (0, .ref 83), (1, .int v1), (2, .int v2)], [.int ((1 : Int32) <<< (v2 &&& 31))])) (S' := (am_sh, hx, w.1, w.2)) rfl ?_
        cases hp
        exact am_Rn.ret am_h231 rfl
def zM_holdOf (v1 : Int32) (v2 : Int32) (w : zHM) : Option (Int32) := (zM_kindOf v1 w).bind fun r1 => if r1 = 2 then (zM_holdOf_J16 v1 v2 v2 w) else (zM_holdOf_J16 v1 v2 (v2 / 2) w)
set_option maxRecDepth 20000 in
theorem ezM_holdOf {d : Nat} (hd : 1 ≤ d) (v1 : Int32) (v2 : Int32) (w : zHM) (R : Int32) (hp : zM_holdOf v1 v2 w = some R) : am_Ev 83 Xs am_P d 231 [.ref 83, .int v1, .int v2] (am_sh, hx, w.1, w.2) (some (.int R), (am_sh, hx, w.1, w.2)) := by
  obtain ⟨d, rfl⟩ : ∃ k, d = k + 1 := ⟨d - 1, by omega⟩
  unfold zM_holdOf at hp
  show am_Rn 83 Xs am_P _ 231 (0, [(0, .ref 83), (1, .int v1), (2, .int v2)], []) _ _
  refine am_Rn.run am_h231 2 (F' := (2, [(0, .ref 83), (1, .int v1), (2, .int v2)], [.int v1, .ref 83])) (S' := (am_sh, hx, w.1, w.2)) rfl ?_
  obtain ⟨r1, h_r1, hp⟩ := am_bind hp
  refine am_Rn.call am_h231 (mj := 158) (As := [.ref 83, .int v1]) (F' := (5, [(0, .ref 83), (1, .int v1), (2, .int v2)], [])) (M' := am_m158) (r := some (.int r1)) (S1 := (am_sh, hx, w.1, w.2)) rfl am_h158 rfl (ezM_kindOf (by omega) v1 w _ h_r1) ?_
  refine am_Rn.run am_h231 1 (F' := (6, [(0, .ref 83), (1, .int v1), (2, .int v2)], [.int 2, .int r1])) (S' := (am_sh, hx, w.1, w.2)) rfl ?_
  refine am_Rn.ite am_h231 (c := r1 = 2) (t := 9) (f := 13) (lv := [(0, .ref 83), (1, .int v1), (2, .int v2)]) (st := []) (S' := (am_sh, hx, w.1, w.2)) rfl hp (fun hc2 hp => ?_) (fun hc2 hp => ?_)
  · refine am_Rn.run am_h231 2 (F' := (16, [(0, .ref 83), (1, .int v1), (2, .int v2)], [.int v2])) (S' := (am_sh, hx, w.1, w.2)) rfl ?_
    exact ezM_holdOf_J16 hd R v1 v2 v2 w hp
  · refine am_Rn.run am_h231 3 (F' := (16, [(0, .ref 83), (1, .int v1), (2, .int v2)], [.int (v2 / 2)])) (S' := (am_sh, hx, w.1, w.2)) rfl ?_
    exact ezM_holdOf_J16 hd R v1 v2 (v2 / 2) w hp
/-- SixHandsModel.canHold(III)Z [83] -/
def zM_canHold (v1 : Int32) (v2 : Int32) (v3 : Int32) (w : zHM) : Option (Int32 × zHM) := if v3 = 0 then (some ((0, w))) else ((zM_placeOf v1 v2 w).bind fun r2 => (zM_isInReach r2 v3 w).bind fun r3 => if r3 = 0 then (some ((0, w))) else ((zM_may v1 v2 v3 w).bind fun r5 => if r5.1 = 0 then (some ((0, r5.2))) else (some ((1, r5.2)))))
set_option maxRecDepth 20000 in
theorem ezM_canHold {d : Nat} (hd : 5 ≤ d) (v1 : Int32) (v2 : Int32) (v3 : Int32) (w : zHM) (R : Int32 × zHM) (hp : zM_canHold v1 v2 v3 w = some R) : am_Ev 83 Xs am_P d 232 [.ref 83, .int v1, .int v2, .int v3] (am_sh, hx, w.1, w.2) (some (.int R.1), (am_sh, hx, R.2.1, R.2.2)) := by
  obtain ⟨d, rfl⟩ : ∃ k, d = k + 1 := ⟨d - 1, by omega⟩
  unfold zM_canHold at hp
  show am_Rn 83 Xs am_P _ 232 (0, [(0, .ref 83), (1, .int v1), (2, .int v2), (3, .int v3)], []) _ _
  refine am_Rn.run am_h232 1 (F' := (1, [(0, .ref 83), (1, .int v1), (2, .int v2), (3, .int v3)], [.int v3])) (S' := (am_sh, hx, w.1, w.2)) rfl ?_
  refine am_Rn.ite am_h232 (c := v3 = 0) (t := 32) (f := 4) (lv := [(0, .ref 83), (1, .int v1), (2, .int v2), (3, .int v3)]) (st := []) (S' := (am_sh, hx, w.1, w.2)) rfl hp (fun hc1 hp => ?_) (fun hc1 hp => ?_)
  · refine am_Rn.run am_h232 1 (F' := (33, [(0, .ref 83), (1, .int v1), (2, .int v2), (3, .int v3)], [.int 0])) (S' := (am_sh, hx, w.1, w.2)) rfl ?_
    cases hp
    exact am_Rn.ret am_h232 rfl
  · refine am_Rn.run am_h232 4 (F' := (8, [(0, .ref 83), (1, .int v1), (2, .int v2), (3, .int v3)], [.int v2, .int v1, .ref 83, .ref 83])) (S' := (am_sh, hx, w.1, w.2)) rfl ?_
    obtain ⟨r2, h_r2, hp⟩ := am_bind hp
    refine am_Rn.call am_h232 (mj := 159) (As := [.ref 83, .int v1, .int v2]) (F' := (11, [(0, .ref 83), (1, .int v1), (2, .int v2), (3, .int v3)], [.ref 83])) (M' := am_m159) (r := some (.int r2)) (S1 := (am_sh, hx, w.1, w.2)) rfl am_h159 rfl (ezM_placeOf (by omega) v1 v2 w _ h_r2) ?_
    refine am_Rn.run am_h232 1 (F' := (12, [(0, .ref 83), (1, .int v1), (2, .int v2), (3, .int v3)], [.int v3, .int r2, .ref 83])) (S' := (am_sh, hx, w.1, w.2)) rfl ?_
    obtain ⟨r3, h_r3, hp⟩ := am_bind hp
    refine am_Rn.call am_h232 (mj := 217) (As := [.ref 83, .int r2, .int v3]) (F' := (15, [(0, .ref 83), (1, .int v1), (2, .int v2), (3, .int v3)], [])) (M' := am_m217) (r := some (.int r3)) (S1 := (am_sh, hx, w.1, w.2)) rfl am_h217 rfl (ezM_isInReach (by omega) r2 v3 w _ h_r3) ?_
    refine am_Rn.ite am_h232 (c := r3 = 0) (t := 32) (f := 18) (lv := [(0, .ref 83), (1, .int v1), (2, .int v2), (3, .int v3)]) (st := []) (S' := (am_sh, hx, w.1, w.2)) rfl hp (fun hc4 hp => ?_) (fun hc4 hp => ?_)
    · refine am_Rn.run am_h232 1 (F' := (33, [(0, .ref 83), (1, .int v1), (2, .int v2), (3, .int v3)], [.int 0])) (S' := (am_sh, hx, w.1, w.2)) rfl ?_
      cases hp
      exact am_Rn.ret am_h232 rfl
    · refine am_Rn.run am_h232 4 (F' := (22, [(0, .ref 83), (1, .int v1), (2, .int v2), (3, .int v3)], [.int v3, .int v2, .int v1, .ref 83])) (S' := (am_sh, hx, w.1, w.2)) rfl ?_
      obtain ⟨r5, h_r5, hp⟩ := am_bind hp
      refine am_Rn.call am_h232 (mj := 215) (As := [.ref 83, .int v1, .int v2, .int v3]) (F' := (25, [(0, .ref 83), (1, .int v1), (2, .int v2), (3, .int v3)], [])) (M' := am_m215) (r := some (.int r5.1)) (S1 := (am_sh, hx, r5.2.1, r5.2.2)) rfl am_h215 rfl (ezM_may (by omega) v1 v2 v3 w _ h_r5) ?_
      refine am_Rn.ite am_h232 (c := r5.1 = 0) (t := 32) (f := 28) (lv := [(0, .ref 83), (1, .int v1), (2, .int v2), (3, .int v3)]) (st := []) (S' := (am_sh, hx, r5.2.1, r5.2.2)) rfl hp (fun hc6 hp => ?_) (fun hc6 hp => ?_)
      · refine am_Rn.run am_h232 1 (F' := (33, [(0, .ref 83), (1, .int v1), (2, .int v2), (3, .int v3)], [.int 0])) (S' := (am_sh, hx, r5.2.1, r5.2.2)) rfl ?_
        cases hp
        exact am_Rn.ret am_h232 rfl
      · refine am_Rn.run am_h232 2 (F' := (33, [(0, .ref 83), (1, .int v1), (2, .int v2), (3, .int v3)], [.int 1])) (S' := (am_sh, hx, r5.2.1, r5.2.2)) rfl ?_
        cases hp
        exact am_Rn.ret am_h232 rfl
/-- SixHandsModel.findWays(I)V [83] -/
def zM_findWays_J170 (k123 : Int32 → Int32 → Int32 → zHM → Option (zHM)) (v1 : Int32) (v2 : Int32) (v3 : Int32) (w : zHM) : Option (zHM) := am_ix 7 v2 (am_ix 7 v2 (am_b ((va_up w.1 95 (upd (w.1 95) (v2.toNatClampNeg) ((w.1 95 (v2.toNatClampNeg)) + 1)), w.2)) fun w36 => k123 v1 v2 v3 w36))
set_option maxRecDepth 20000 in
theorem ezM_findWays_J170 {d : Nat} (hd : 6 ≤ d) (R : zHM) (k123 : Int32 → Int32 → Int32 → zHM → Option (zHM)) (hk123 : ∀ (v1 : Int32) (v2 : Int32) (v3 : Int32) (w : zHM), k123 v1 v2 v3 w = some R → am_Rn 83 Xs am_P d 235 (123, [(0, .ref 83), (1, .int v1), (2, .int v2), (3, .int v3)], []) (am_sh, hx, w.1, w.2) (none, (am_sh, hx, R.1, R.2))) (v1 : Int32) (v2 : Int32) (v3 : Int32) (w : zHM) (hp : zM_findWays_J170 k123 v1 v2 v3 w = some R) : am_Rn 83 Xs am_P d 235 (170, [(0, .ref 83), (1, .int v1), (2, .int v2), (3, .int v3)], []) (am_sh, hx, w.1, w.2) (none, (am_sh, hx, R.1, R.2)) := by
  obtain ⟨d, rfl⟩ : ∃ k, d = k + 1 := ⟨d - 1, by omega⟩
  unfold zM_findWays_J170 at hp
  refine am_Rn.run am_h235 4 (F' := (176, [(0, .ref 83), (1, .int v1), (2, .int v2), (3, .int v3)], [.int v2, .ref 95, .int v2, .ref 95])) (S' := (am_sh, hx, w.1, w.2)) rfl ?_
  obtain ⟨hn34, hp⟩ := am_ix_e hp
  refine am_Rn.stepG am_h235 (c := v2 < 0 ∨ 7 ≤ v2.toNatClampNeg) (F' := (177, [(0, .ref 83), (1, .int v1), (2, .int v2), (3, .int v3)], [.int (w.1 95 (v2.toNatClampNeg)), .int v2, .ref 95])) (S' := (am_sh, hx, w.1, w.2)) rfl hn34 ?_
  refine am_Rn.run am_h235 2 (F' := (179, [(0, .ref 83), (1, .int v1), (2, .int v2), (3, .int v3)], [.int ((w.1 95 (v2.toNatClampNeg)) + 1), .int v2, .ref 95])) (S' := (am_sh, hx, w.1, w.2)) rfl ?_
  obtain ⟨hn35, hp⟩ := am_ix_e hp
  obtain ⟨w36, h_w36, hp⟩ := am_b_e hp
  refine am_Rn.stepG am_h235 (c := v2 < 0 ∨ 7 ≤ v2.toNatClampNeg) (F' := (180, [(0, .ref 83), (1, .int v1), (2, .int v2), (3, .int v3)], [])) (S' := (am_sh, hx, w36.1, w36.2)) (by subst h_w36; rfl) hn35 ?_
  refine am_Rn.run am_h235 1 (F' := (123, [(0, .ref 83), (1, .int v1), (2, .int v2), (3, .int v3)], [])) (S' := (am_sh, hx, w36.1, w36.2)) rfl ?_
  exact hk123 v1 v2 v3 w36 hp
def zM_findWays_J183 (k16 : Int32 → Int32 → zHM → Option (zHM)) (v1 : Int32) (v2 : Int32) (w : zHM) : Option (zHM) := am_ix 7 v2 (if (w.1 95 (v2.toNatClampNeg)) < 6 then (am_ix 7 v2 ((zM_holdOf v2 (w.1 95 (v2.toNatClampNeg)) w).bind fun r40 => am_ix 7 v2 (am_b ((va_up w.1 96 (upd (w.1 96) (v2.toNatClampNeg) r40), w.2)) fun w42 => (zM_next v2 w42).bind fun r43 => k16 v1 r43.1 r43.2))) else (am_b (v2 + (-1)) fun x44 => k16 v1 x44 w))
set_option maxRecDepth 20000 in
theorem ezM_findWays_J183 {d : Nat} (hd : 6 ≤ d) (R : zHM) (k16 : Int32 → Int32 → zHM → Option (zHM)) (hk16 : ∀ (v1 : Int32) (v2 : Int32) (w : zHM), k16 v1 v2 w = some R → am_Rn 83 Xs am_P d 235 (16, [(0, .ref 83), (1, .int v1), (2, .int v2)], []) (am_sh, hx, w.1, w.2) (none, (am_sh, hx, R.1, R.2))) (v1 : Int32) (v2 : Int32) (w : zHM) (hp : zM_findWays_J183 k16 v1 v2 w = some R) : am_Rn 83 Xs am_P d 235 (183, [(0, .ref 83), (1, .int v1), (2, .int v2)], []) (am_sh, hx, w.1, w.2) (none, (am_sh, hx, R.1, R.2)) := by
  obtain ⟨d, rfl⟩ : ∃ k, d = k + 1 := ⟨d - 1, by omega⟩
  unfold zM_findWays_J183 at hp
  refine am_Rn.run am_h235 3 (F' := (188, [(0, .ref 83), (1, .int v1), (2, .int v2)], [.int v2, .ref 95])) (S' := (am_sh, hx, w.1, w.2)) rfl ?_
  obtain ⟨hn37, hp⟩ := am_ix_e hp
  refine am_Rn.stepG am_h235 (c := v2 < 0 ∨ 7 ≤ v2.toNatClampNeg) (F' := (189, [(0, .ref 83), (1, .int v1), (2, .int v2)], [.int (w.1 95 (v2.toNatClampNeg))])) (S' := (am_sh, hx, w.1, w.2)) rfl hn37 ?_
  refine am_Rn.run am_h235 1 (F' := (191, [(0, .ref 83), (1, .int v1), (2, .int v2)], [.int 6, .int (w.1 95 (v2.toNatClampNeg))])) (S' := (am_sh, hx, w.1, w.2)) rfl ?_
  refine am_Rn.ite am_h235 (c := (w.1 95 (v2.toNatClampNeg)) < 6) (t := 200) (f := 194) (lv := [(0, .ref 83), (1, .int v1), (2, .int v2)]) (st := []) (S' := (am_sh, hx, w.1, w.2)) rfl hp (fun hc38 hp => ?_) (fun hc38 hp => ?_)
  · refine am_Rn.run am_h235 8 (F' := (212, [(0, .ref 83), (1, .int v1), (2, .int v2)], [.int v2, .ref 95, .int v2, .ref 83, .int v2, .ref 96])) (S' := (am_sh, hx, w.1, w.2)) rfl ?_
    obtain ⟨hn39, hp⟩ := am_ix_e hp
    refine am_Rn.stepG am_h235 (c := v2 < 0 ∨ 7 ≤ v2.toNatClampNeg) (F' := (213, [(0, .ref 83), (1, .int v1), (2, .int v2)], [.int (w.1 95 (v2.toNatClampNeg)), .int v2, .ref 83, .int v2, .ref 96])) (S' := (am_sh, hx, w.1, w.2)) rfl hn39 ?_
    obtain ⟨r40, h_r40, hp⟩ := am_bind hp
    refine am_Rn.call am_h235 (mj := 231) (As := [.ref 83, .int v2, .int (w.1 95 (v2.toNatClampNeg))]) (F' := (216, [(0, .ref 83), (1, .int v1), (2, .int v2)], [.int v2, .ref 96])) (M' := am_m231) (r := some (.int r40)) (S1 := (am_sh, hx, w.1, w.2)) rfl am_h231 rfl (ezM_holdOf (by omega) v2 (w.1 95 (v2.toNatClampNeg)) w _ h_r40) ?_
    obtain ⟨hn41, hp⟩ := am_ix_e hp
    obtain ⟨w42, h_w42, hp⟩ := am_b_e hp
    refine am_Rn.stepG am_h235 (c := v2 < 0 ∨ 7 ≤ v2.toNatClampNeg) (F' := (217, [(0, .ref 83), (1, .int v1), (2, .int v2)], [])) (S' := (am_sh, hx, w42.1, w42.2)) (by subst h_w42; rfl) hn41 ?_
    refine am_Rn.run am_h235 2 (F' := (219, [(0, .ref 83), (1, .int v1), (2, .int v2)], [.int v2, .ref 83])) (S' := (am_sh, hx, w42.1, w42.2)) rfl ?_
    obtain ⟨r43, h_r43, hp⟩ := am_bind hp
    refine am_Rn.call am_h235 (mj := 237) (As := [.ref 83, .int v2]) (F' := (222, [(0, .ref 83), (1, .int v1), (2, .int v2)], [])) (M' := am_m237) (r := some (.int r43.1)) (S1 := (am_sh, hx, r43.2.1, r43.2.2)) rfl am_h237 rfl (ezM_next (by omega) v2 w42 _ h_r43) ?_
    refine am_Rn.run am_h235 2 (F' := (16, [(2, .int r43.1), (0, .ref 83), (1, .int v1)], [])) (S' := (am_sh, hx, r43.2.1, r43.2.2)) rfl ?_
    refine am_Rn.sub [1, 2, 0] rfl rfl ?_
    exact hk16 v1 r43.1 r43.2 hp
  · obtain ⟨x44, h_x44, hp⟩ := am_b_e hp
    refine am_Rn.run am_h235 2 (F' := (16, [(2, .int x44), (0, .ref 83), (1, .int v1)], [])) (S' := (am_sh, hx, w.1, w.2)) (by subst h_x44; rfl) ?_
    refine am_Rn.sub [1, 2, 0] rfl rfl ?_
    exact hk16 v1 x44 w hp
def zM_findWays_L123 (k16 : Int32 → Int32 → zHM → Option (zHM)) : Nat → Int32 → Int32 → Int32 → zHM → Option (zHM)
  | 0, _, _, _, _ => none
  | n + 1, v1, v2, v3, w => am_ix 7 v2 (if (w.1 95 (v2.toNatClampNeg)) < 6 then (am_ix 7 v2 ((zM_holdOf v2 (w.1 95 (v2.toNatClampNeg)) w).bind fun r28 => if (r28 &&& v3) = 0 then (am_ix 7 v2 ((zM_holdOf v2 (w.1 95 (v2.toNatClampNeg)) w).bind fun r31 => (zM_canHold v1 v2 r31 w).bind fun r32 => if r32.1 = 0 then (zM_findWays_J170 (fun v1 v2 v3 w => zM_findWays_L123 k16 n v1 v2 v3 w) v1 v2 v3 r32.2) else (zM_findWays_J183 k16 v1 v2 r32.2))) else (zM_findWays_J170 (fun v1 v2 v3 w => zM_findWays_L123 k16 n v1 v2 v3 w) v1 v2 v3 w))) else (zM_findWays_J183 k16 v1 v2 w))
set_option maxRecDepth 20000 in
theorem ezM_findWays_L123 {d : Nat} (hd : 6 ≤ d) (R : zHM) (k16 : Int32 → Int32 → zHM → Option (zHM)) (hk16 : ∀ (v1 : Int32) (v2 : Int32) (w : zHM), k16 v1 v2 w = some R → am_Rn 83 Xs am_P d 235 (16, [(0, .ref 83), (1, .int v1), (2, .int v2)], []) (am_sh, hx, w.1, w.2) (none, (am_sh, hx, R.1, R.2))) : ∀ (n : Nat) (v1 : Int32) (v2 : Int32) (v3 : Int32) (w : zHM), zM_findWays_L123 k16 n v1 v2 v3 w = some R → am_Rn 83 Xs am_P d 235 (123, [(0, .ref 83), (1, .int v1), (2, .int v2), (3, .int v3)], []) (am_sh, hx, w.1, w.2) (none, (am_sh, hx, R.1, R.2))
  | 0, _, _, _, _, hp => by cases hp
  | n + 1, v1, v2, v3, w, hp => by
    obtain ⟨d, rfl⟩ : ∃ k, d = k + 1 := ⟨d - 1, by omega⟩
    unfold zM_findWays_L123 at hp
    refine am_Rn.run am_h235 3 (F' := (128, [(0, .ref 83), (1, .int v1), (2, .int v2), (3, .int v3)], [.int v2, .ref 95])) (S' := (am_sh, hx, w.1, w.2)) rfl ?_
    obtain ⟨hn25, hp⟩ := am_ix_e hp
    refine am_Rn.stepG am_h235 (c := v2 < 0 ∨ 7 ≤ v2.toNatClampNeg) (F' := (129, [(0, .ref 83), (1, .int v1), (2, .int v2), (3, .int v3)], [.int (w.1 95 (v2.toNatClampNeg))])) (S' := (am_sh, hx, w.1, w.2)) rfl hn25 ?_
    refine am_Rn.run am_h235 1 (F' := (131, [(0, .ref 83), (1, .int v1), (2, .int v2), (3, .int v3)], [.int 6, .int (w.1 95 (v2.toNatClampNeg))])) (S' := (am_sh, hx, w.1, w.2)) rfl ?_
    refine am_Rn.ite am_h235 (c := (w.1 95 (v2.toNatClampNeg)) < 6) (t := 134) (f := 183) (lv := [(0, .ref 83), (1, .int v1), (2, .int v2), (3, .int v3)]) (st := []) (S' := (am_sh, hx, w.1, w.2)) rfl hp (fun hc26 hp => ?_) (fun hc26 hp => ?_)
    · refine am_Rn.run am_h235 5 (F' := (141, [(0, .ref 83), (1, .int v1), (2, .int v2), (3, .int v3)], [.int v2, .ref 95, .int v2, .ref 83])) (S' := (am_sh, hx, w.1, w.2)) rfl ?_
      obtain ⟨hn27, hp⟩ := am_ix_e hp
      refine am_Rn.stepG am_h235 (c := v2 < 0 ∨ 7 ≤ v2.toNatClampNeg) (F' := (142, [(0, .ref 83), (1, .int v1), (2, .int v2), (3, .int v3)], [.int (w.1 95 (v2.toNatClampNeg)), .int v2, .ref 83])) (S' := (am_sh, hx, w.1, w.2)) rfl hn27 ?_
      obtain ⟨r28, h_r28, hp⟩ := am_bind hp
      refine am_Rn.call am_h235 (mj := 231) (As := [.ref 83, .int v2, .int (w.1 95 (v2.toNatClampNeg))]) (F' := (145, [(0, .ref 83), (1, .int v1), (2, .int v2), (3, .int v3)], [])) (M' := am_m231) (r := some (.int r28)) (S1 := (am_sh, hx, w.1, w.2)) rfl am_h231 rfl (ezM_holdOf (by omega) v2 (w.1 95 (v2.toNatClampNeg)) w _ h_r28) ?_
      refine am_Rn.run am_h235 2 (F' := (147, [(0, .ref 83), (1, .int v1), (2, .int v2), (3, .int v3)], [.int (r28 &&& v3)])) (S' := (am_sh, hx, w.1, w.2)) rfl ?_
      refine am_Rn.ite am_h235 (c := (r28 &&& v3) = 0) (t := 150) (f := 170) (lv := [(0, .ref 83), (1, .int v1), (2, .int v2), (3, .int v3)]) (st := []) (S' := (am_sh, hx, w.1, w.2)) rfl hp (fun hc29 hp => ?_) (fun hc29 hp => ?_)
      · refine am_Rn.run am_h235 8 (F' := (160, [(0, .ref 83), (1, .int v1), (2, .int v2), (3, .int v3)], [.int v2, .ref 95, .int v2, .ref 83, .int v2, .int v1, .ref 83])) (S' := (am_sh, hx, w.1, w.2)) rfl ?_
        obtain ⟨hn30, hp⟩ := am_ix_e hp
        refine am_Rn.stepG am_h235 (c := v2 < 0 ∨ 7 ≤ v2.toNatClampNeg) (F' := (161, [(0, .ref 83), (1, .int v1), (2, .int v2), (3, .int v3)], [.int (w.1 95 (v2.toNatClampNeg)), .int v2, .ref 83, .int v2, .int v1, .ref 83])) (S' := (am_sh, hx, w.1, w.2)) rfl hn30 ?_
        obtain ⟨r31, h_r31, hp⟩ := am_bind hp
        refine am_Rn.call am_h235 (mj := 231) (As := [.ref 83, .int v2, .int (w.1 95 (v2.toNatClampNeg))]) (F' := (164, [(0, .ref 83), (1, .int v1), (2, .int v2), (3, .int v3)], [.int v2, .int v1, .ref 83])) (M' := am_m231) (r := some (.int r31)) (S1 := (am_sh, hx, w.1, w.2)) rfl am_h231 rfl (ezM_holdOf (by omega) v2 (w.1 95 (v2.toNatClampNeg)) w _ h_r31) ?_
        obtain ⟨r32, h_r32, hp⟩ := am_bind hp
        refine am_Rn.call am_h235 (mj := 232) (As := [.ref 83, .int v1, .int v2, .int r31]) (F' := (167, [(0, .ref 83), (1, .int v1), (2, .int v2), (3, .int v3)], [])) (M' := am_m232) (r := some (.int r32.1)) (S1 := (am_sh, hx, r32.2.1, r32.2.2)) rfl am_h232 rfl (ezM_canHold (by omega) v1 v2 r31 w _ h_r32) ?_
        refine am_Rn.ite am_h235 (c := r32.1 = 0) (t := 170) (f := 183) (lv := [(0, .ref 83), (1, .int v1), (2, .int v2), (3, .int v3)]) (st := []) (S' := (am_sh, hx, r32.2.1, r32.2.2)) rfl hp (fun hc33 hp => ?_) (fun hc33 hp => ?_)
        · exact ezM_findWays_J170 hd R (fun v1 v2 v3 w => zM_findWays_L123 k16 n v1 v2 v3 w) (fun v1 v2 v3 w hp => ezM_findWays_L123 hd R k16 hk16 n v1 v2 v3 w hp) v1 v2 v3 r32.2 hp
        · refine am_Rn.sub [0, 1, 2] rfl rfl ?_
          exact ezM_findWays_J183 hd R k16 hk16 v1 v2 r32.2 hp
      · exact ezM_findWays_J170 hd R (fun v1 v2 v3 w => zM_findWays_L123 k16 n v1 v2 v3 w) (fun v1 v2 v3 w hp => ezM_findWays_L123 hd R k16 hk16 n v1 v2 v3 w hp) v1 v2 v3 w hp
    · refine am_Rn.sub [0, 1, 2] rfl rfl ?_
      exact ezM_findWays_J183 hd R k16 hk16 v1 v2 w hp
def zM_findWays_L91 (k16 : Int32 → Int32 → zHM → Option (zHM)) : Nat → Int32 → Int32 → Int32 → Int32 → zHM → Option (zHM)
  | 0, _, _, _, _, _ => none
  | n + 1, v1, v2, v3, v4, w => if v4 < v2 then (am_ix 7 v4 (am_b (v3 ||| (w.1 96 (v4.toNatClampNeg))) fun x21 => zM_findWays_L91 k16 n v1 v2 x21 (v4 + 1) w)) else (am_ix 7 v2 (am_ix 7 v2 (am_b ((va_up w.1 95 (upd (w.1 95) (v2.toNatClampNeg) ((w.1 95 (v2.toNatClampNeg)) + 1)), w.2)) fun w24 => zM_findWays_L123 k16 am_N v1 v2 v3 w24)))
set_option maxRecDepth 20000 in
theorem ezM_findWays_L91 {d : Nat} (hd : 6 ≤ d) (R : zHM) (k16 : Int32 → Int32 → zHM → Option (zHM)) (hk16 : ∀ (v1 : Int32) (v2 : Int32) (w : zHM), k16 v1 v2 w = some R → am_Rn 83 Xs am_P d 235 (16, [(0, .ref 83), (1, .int v1), (2, .int v2)], []) (am_sh, hx, w.1, w.2) (none, (am_sh, hx, R.1, R.2))) : ∀ (n : Nat) (v1 : Int32) (v2 : Int32) (v3 : Int32) (v4 : Int32) (w : zHM), zM_findWays_L91 k16 n v1 v2 v3 v4 w = some R → am_Rn 83 Xs am_P d 235 (91, [(0, .ref 83), (1, .int v1), (2, .int v2), (3, .int v3), (4, .int v4)], []) (am_sh, hx, w.1, w.2) (none, (am_sh, hx, R.1, R.2))
  | 0, _, _, _, _, _, hp => by cases hp
  | n + 1, v1, v2, v3, v4, w, hp => by
    obtain ⟨d, rfl⟩ : ∃ k, d = k + 1 := ⟨d - 1, by omega⟩
    unfold zM_findWays_L91 at hp
    refine am_Rn.run am_h235 2 (F' := (94, [(0, .ref 83), (1, .int v1), (2, .int v2), (3, .int v3), (4, .int v4)], [.int v2, .int v4])) (S' := (am_sh, hx, w.1, w.2)) rfl ?_
    refine am_Rn.ite am_h235 (c := v4 < v2) (t := 97) (f := 113) (lv := [(0, .ref 83), (1, .int v1), (2, .int v2), (3, .int v3), (4, .int v4)]) (st := []) (S' := (am_sh, hx, w.1, w.2)) rfl hp (fun hc19 hp => ?_) (fun hc19 hp => ?_)
    · refine am_Rn.run am_h235 4 (F' := (104, [(0, .ref 83), (1, .int v1), (2, .int v2), (3, .int v3), (4, .int v4)], [.int v4, .ref 96, .int v3])) (S' := (am_sh, hx, w.1, w.2)) rfl ?_
      obtain ⟨hn20, hp⟩ := am_ix_e hp
      refine am_Rn.stepG am_h235 (c := v4 < 0 ∨ 7 ≤ v4.toNatClampNeg) (F' := (105, [(0, .ref 83), (1, .int v1), (2, .int v2), (3, .int v3), (4, .int v4)], [.int (w.1 96 (v4.toNatClampNeg)), .int v3])) (S' := (am_sh, hx, w.1, w.2)) rfl hn20 ?_
      obtain ⟨x21, h_x21, hp⟩ := am_b_e hp
      refine am_Rn.run am_h235 4 (F' := (91, [(4, .int (v4 + 1)), (3, .int x21), (0, .ref 83), (1, .int v1), (2, .int v2)], [])) (S' := (am_sh, hx, w.1, w.2)) (by subst h_x21; rfl) ?_
      refine am_Rn.sub [2, 3, 4, 1, 0] rfl rfl ?_
      exact ezM_findWays_L91 hd R k16 hk16 n v1 v2 x21 (v4 + 1) w hp
    · refine am_Rn.run am_h235 4 (F' := (119, [(0, .ref 83), (1, .int v1), (2, .int v2), (3, .int v3), (4, .int v4)], [.int v2, .ref 95, .int v2, .ref 95])) (S' := (am_sh, hx, w.1, w.2)) rfl ?_
      obtain ⟨hn22, hp⟩ := am_ix_e hp
      refine am_Rn.stepG am_h235 (c := v2 < 0 ∨ 7 ≤ v2.toNatClampNeg) (F' := (120, [(0, .ref 83), (1, .int v1), (2, .int v2), (3, .int v3), (4, .int v4)], [.int (w.1 95 (v2.toNatClampNeg)), .int v2, .ref 95])) (S' := (am_sh, hx, w.1, w.2)) rfl hn22 ?_
      refine am_Rn.run am_h235 2 (F' := (122, [(0, .ref 83), (1, .int v1), (2, .int v2), (3, .int v3), (4, .int v4)], [.int ((w.1 95 (v2.toNatClampNeg)) + 1), .int v2, .ref 95])) (S' := (am_sh, hx, w.1, w.2)) rfl ?_
      obtain ⟨hn23, hp⟩ := am_ix_e hp
      obtain ⟨w24, h_w24, hp⟩ := am_b_e hp
      refine am_Rn.stepG am_h235 (c := v2 < 0 ∨ 7 ≤ v2.toNatClampNeg) (F' := (123, [(0, .ref 83), (1, .int v1), (2, .int v2), (3, .int v3), (4, .int v4)], [])) (S' := (am_sh, hx, w24.1, w24.2)) (by subst h_w24; rfl) hn23 ?_
      refine am_Rn.sub [0, 1, 2, 3] rfl rfl ?_
      exact ezM_findWays_L123 hd R k16 hk16 am_N v1 v2 v3 w24 hp
def zM_findWays_L16 : Nat → Int32 → Int32 → zHM → Option (zHM)
  | 0, _, _, _ => none
  | n + 1, v1, v2, w => if v2 < 0 then (some w) else (if v2 = 6 then ((zM_isWay v1 w).bind fun r6 => if r6 = 0 then (am_b (v2 + (-1)) fun x8 => zM_findWays_L16 n v1 x8 w) else ((zM_layWay v1 w).bind fun r9 => am_b (v2 + (-1)) fun x10 => zM_findWays_L16 n v1 x10 r9)) else (am_ix 7 v2 (am_b ((va_up w.1 96 (upd (w.1 96) (v2.toNatClampNeg) 0), w.2)) fun w12 => (zM_isThere v1 v2 w12).bind fun r13 => if r13 = 0 then (am_ix 7 v2 (if (w12.1 95 (v2.toNatClampNeg)) = (-1) then ((zM_begin v2 w12).bind fun r17 => zM_findWays_L16 n v1 r17.1 r17.2) else (am_b (v2 - 1) fun x18 => zM_findWays_L16 n v1 x18 w12))) else (zM_findWays_L91 (fun v1 v2 w => zM_findWays_L16 n v1 v2 w) am_N v1 v2 0 0 w12))))
set_option maxRecDepth 20000 in
theorem ezM_findWays_L16 {d : Nat} (hd : 6 ≤ d) (R : zHM) : ∀ (n : Nat) (v1 : Int32) (v2 : Int32) (w : zHM), zM_findWays_L16 n v1 v2 w = some R → am_Rn 83 Xs am_P d 235 (16, [(0, .ref 83), (1, .int v1), (2, .int v2)], []) (am_sh, hx, w.1, w.2) (none, (am_sh, hx, R.1, R.2))
  | 0, _, _, _, hp => by cases hp
  | n + 1, v1, v2, w, hp => by
    obtain ⟨d, rfl⟩ : ∃ k, d = k + 1 := ⟨d - 1, by omega⟩
    unfold zM_findWays_L16 at hp
    refine am_Rn.run am_h235 1 (F' := (17, [(0, .ref 83), (1, .int v1), (2, .int v2)], [.int v2])) (S' := (am_sh, hx, w.1, w.2)) rfl ?_
    refine am_Rn.ite am_h235 (c := v2 < 0) (t := 226) (f := 20) (lv := [(0, .ref 83), (1, .int v1), (2, .int v2)]) (st := []) (S' := (am_sh, hx, w.1, w.2)) rfl hp (fun hc4 hp => ?_) (fun hc4 hp => ?_)
    · cases hp
      exact am_Rn.ret am_h235 rfl
    · refine am_Rn.run am_h235 2 (F' := (23, [(0, .ref 83), (1, .int v1), (2, .int v2)], [.int 6, .int v2])) (S' := (am_sh, hx, w.1, w.2)) rfl ?_
      refine am_Rn.ite am_h235 (c := v2 = 6) (t := 26) (f := 45) (lv := [(0, .ref 83), (1, .int v1), (2, .int v2)]) (st := []) (S' := (am_sh, hx, w.1, w.2)) rfl hp (fun hc5 hp => ?_) (fun hc5 hp => ?_)
      · refine am_Rn.run am_h235 2 (F' := (28, [(0, .ref 83), (1, .int v1), (2, .int v2)], [.int v1, .ref 83])) (S' := (am_sh, hx, w.1, w.2)) rfl ?_
        obtain ⟨r6, h_r6, hp⟩ := am_bind hp
        refine am_Rn.call am_h235 (mj := 233) (As := [.ref 83, .int v1]) (F' := (31, [(0, .ref 83), (1, .int v1), (2, .int v2)], [])) (M' := am_m233) (r := some (.int r6)) (S1 := (am_sh, hx, w.1, w.2)) rfl am_h233 rfl (ezM_isWay (by omega) v1 w _ h_r6) ?_
        refine am_Rn.ite am_h235 (c := r6 = 0) (t := 39) (f := 34) (lv := [(0, .ref 83), (1, .int v1), (2, .int v2)]) (st := []) (S' := (am_sh, hx, w.1, w.2)) rfl hp (fun hc7 hp => ?_) (fun hc7 hp => ?_)
        · obtain ⟨x8, h_x8, hp⟩ := am_b_e hp
          refine am_Rn.run am_h235 2 (F' := (16, [(2, .int x8), (0, .ref 83), (1, .int v1)], [])) (S' := (am_sh, hx, w.1, w.2)) (by subst h_x8; rfl) ?_
          refine am_Rn.sub [1, 2, 0] rfl rfl ?_
          exact ezM_findWays_L16 hd R n v1 x8 w hp
        · refine am_Rn.run am_h235 2 (F' := (36, [(0, .ref 83), (1, .int v1), (2, .int v2)], [.int v1, .ref 83])) (S' := (am_sh, hx, w.1, w.2)) rfl ?_
          obtain ⟨r9, h_r9, hp⟩ := am_bind hp
          refine am_Rn.call am_h235 (mj := 238) (As := [.ref 83, .int v1]) (F' := (39, [(0, .ref 83), (1, .int v1), (2, .int v2)], [])) (M' := am_m238) (r := none) (S1 := (am_sh, hx, r9.1, r9.2)) rfl am_h238 rfl (ezM_layWay (by omega) v1 w _ h_r9) ?_
          obtain ⟨x10, h_x10, hp⟩ := am_b_e hp
          refine am_Rn.run am_h235 2 (F' := (16, [(2, .int x10), (0, .ref 83), (1, .int v1)], [])) (S' := (am_sh, hx, r9.1, r9.2)) (by subst h_x10; rfl) ?_
          refine am_Rn.sub [1, 2, 0] rfl rfl ?_
          exact ezM_findWays_L16 hd R n v1 x10 r9 hp
      · refine am_Rn.run am_h235 4 (F' := (51, [(0, .ref 83), (1, .int v1), (2, .int v2)], [.int 0, .int v2, .ref 96])) (S' := (am_sh, hx, w.1, w.2)) rfl ?_
        obtain ⟨hn11, hp⟩ := am_ix_e hp
        obtain ⟨w12, h_w12, hp⟩ := am_b_e hp
        refine am_Rn.stepG am_h235 (c := v2 < 0 ∨ 7 ≤ v2.toNatClampNeg) (F' := (52, [(0, .ref 83), (1, .int v1), (2, .int v2)], [])) (S' := (am_sh, hx, w12.1, w12.2)) (by subst h_w12; rfl) hn11 ?_
        refine am_Rn.run am_h235 3 (F' := (55, [(0, .ref 83), (1, .int v1), (2, .int v2)], [.int v2, .int v1, .ref 83])) (S' := (am_sh, hx, w12.1, w12.2)) rfl ?_
        obtain ⟨r13, h_r13, hp⟩ := am_bind hp
        refine am_Rn.call am_h235 (mj := 230) (As := [.ref 83, .int v1, .int v2]) (F' := (58, [(0, .ref 83), (1, .int v1), (2, .int v2)], [])) (M' := am_m230) (r := some (.int r13)) (S1 := (am_sh, hx, w12.1, w12.2)) rfl am_h230 rfl (ezM_isThere (by omega) v1 v2 w12 _ h_r13) ?_
        refine am_Rn.ite am_h235 (c := r13 = 0) (t := 61) (f := 86) (lv := [(0, .ref 83), (1, .int v1), (2, .int v2)]) (st := []) (S' := (am_sh, hx, w12.1, w12.2)) rfl hp (fun hc14 hp => ?_) (fun hc14 hp => ?_)
        · refine am_Rn.run am_h235 3 (F' := (66, [(0, .ref 83), (1, .int v1), (2, .int v2)], [.int v2, .ref 95])) (S' := (am_sh, hx, w12.1, w12.2)) rfl ?_
          obtain ⟨hn15, hp⟩ := am_ix_e hp
          refine am_Rn.stepG am_h235 (c := v2 < 0 ∨ 7 ≤ v2.toNatClampNeg) (F' := (67, [(0, .ref 83), (1, .int v1), (2, .int v2)], [.int (w12.1 95 (v2.toNatClampNeg))])) (S' := (am_sh, hx, w12.1, w12.2)) rfl hn15 ?_
          refine am_Rn.run am_h235 1 (F' := (68, [(0, .ref 83), (1, .int v1), (2, .int v2)], [.int (-1), .int (w12.1 95 (v2.toNatClampNeg))])) (S' := (am_sh, hx, w12.1, w12.2)) rfl ?_
          refine am_Rn.ite am_h235 (c := (w12.1 95 (v2.toNatClampNeg)) = (-1)) (t := 71) (f := 79) (lv := [(0, .ref 83), (1, .int v1), (2, .int v2)]) (st := []) (S' := (am_sh, hx, w12.1, w12.2)) rfl hp (fun hc16 hp => ?_) (fun hc16 hp => ?_)
          · refine am_Rn.run am_h235 2 (F' := (73, [(0, .ref 83), (1, .int v1), (2, .int v2)], [.int v2, .ref 83])) (S' := (am_sh, hx, w12.1, w12.2)) rfl ?_
            obtain ⟨r17, h_r17, hp⟩ := am_bind hp
            refine am_Rn.call am_h235 (mj := 236) (As := [.ref 83, .int v2]) (F' := (76, [(0, .ref 83), (1, .int v1), (2, .int v2)], [])) (M' := am_m236) (r := some (.int r17.1)) (S1 := (am_sh, hx, r17.2.1, r17.2.2)) rfl am_h236 rfl (ezM_begin (by omega) v2 w12 _ h_r17) ?_
            refine am_Rn.run am_h235 3 (F' := (16, [(2, .int r17.1), (0, .ref 83), (1, .int v1)], [])) (S' := (am_sh, hx, r17.2.1, r17.2.2)) rfl ?_
            refine am_Rn.sub [1, 2, 0] rfl rfl ?_
            exact ezM_findWays_L16 hd R n v1 r17.1 r17.2 hp
          · obtain ⟨x18, h_x18, hp⟩ := am_b_e hp
            refine am_Rn.run am_h235 5 (F' := (16, [(2, .int x18), (0, .ref 83), (1, .int v1)], [])) (S' := (am_sh, hx, w12.1, w12.2)) (by subst h_x18; rfl) ?_
            refine am_Rn.sub [1, 2, 0] rfl rfl ?_
            exact ezM_findWays_L16 hd R n v1 x18 w12 hp
        · refine am_Rn.run am_h235 4 (F' := (91, [(4, .int 0), (3, .int 0), (0, .ref 83), (1, .int v1), (2, .int v2)], [])) (S' := (am_sh, hx, w12.1, w12.2)) rfl ?_
          refine am_Rn.sub [2, 3, 4, 1, 0] rfl rfl ?_
          exact ezM_findWays_L91 hd R (fun v1 v2 w => zM_findWays_L16 n v1 v2 w) (fun v1 v2 w hp => ezM_findWays_L16 hd R n v1 v2 w hp) am_N v1 v2 0 0 w12 hp
def zM_findWays (v1 : Int32) (w : zHM) : Option (zHM) := am_ix 24 v1 (am_b ((va_up w.1 93 (upd (w.1 93) (v1.toNatClampNeg) 0), w.2)) fun w2 => am_b ((va_up w2.1 95 (upd (w2.1 95) 0 (-1)), w2.2)) fun w3 => zM_findWays_L16 am_N v1 0 w3)
set_option maxRecDepth 20000 in
theorem ezM_findWays {d : Nat} (hd : 6 ≤ d) (v1 : Int32) (w : zHM) (R : zHM) (hp : zM_findWays v1 w = some R) : am_Ev 83 Xs am_P d 235 [.ref 83, .int v1] (am_sh, hx, w.1, w.2) (none, (am_sh, hx, R.1, R.2)) := by
  obtain ⟨d, rfl⟩ : ∃ k, d = k + 1 := ⟨d - 1, by omega⟩
  unfold zM_findWays at hp
  show am_Rn 83 Xs am_P _ 235 (0, [(0, .ref 83), (1, .int v1)], []) _ _
  refine am_Rn.run am_h235 4 (F' := (6, [(0, .ref 83), (1, .int v1)], [.int 0, .int v1, .ref 93])) (S' := (am_sh, hx, w.1, w.2)) rfl ?_
  obtain ⟨hn1, hp⟩ := am_ix_e hp
  obtain ⟨w2, h_w2, hp⟩ := am_b_e hp
  refine am_Rn.stepG am_h235 (c := v1 < 0 ∨ 24 ≤ v1.toNatClampNeg) (F' := (7, [(0, .ref 83), (1, .int v1)], [])) (S' := (am_sh, hx, w2.1, w2.2)) (by subst h_w2; rfl) hn1 ?_
  obtain ⟨w3, h_w3, hp⟩ := am_b_e hp
  refine am_Rn.run am_h235 7 (F' := (16, [(2, .int 0), (0, .ref 83), (1, .int v1)], [])) (S' := (am_sh, hx, w3.1, w3.2)) (by subst h_w3; rfl) ?_
  refine am_Rn.sub [1, 2, 0] rfl rfl ?_
  exact ezM_findWays_L16 hd R am_N v1 0 w3 hp
end
