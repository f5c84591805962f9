section
variable {Xs : Nat × (Nat → Int32)} {hx hm : Nat → Nat → Int32} {g : Nat → Nat → Int64} {S : am_S}
/-- SixHands$Judge.isEachAmong(LSixHands$Stage;LSixHands$Laws;IZ)Z [1, 59] -/
def zJ_isEachAmong_J82 (k3 : Int32 → Int32 → Int32 → (Nat → Nat → Int32) → Option (Int32)) (v2 : Int32) (v3 : Int32) (v4 : Int32) (v6 : Int32) (s0 : Int32) (h : (Nat → Nat → Int32)) : Option (Int32) := if (s0 &&& v6) = 0 then (some 0) else (k3 v2 v3 (v4 + 1) h)
set_option maxRecDepth 20000 in
theorem ezJ_isEachAmong_J82 {d : Nat} (hd : 1 ≤ d) (R : Int32) (k3 : Int32 → Int32 → Int32 → (Nat → Nat → Int32) → Option (Int32)) (hk3 : ∀ (v2 : Int32) (v3 : Int32) (v4 : Int32) (h : (Nat → Nat → Int32)), k3 v2 v3 v4 h = some R → am_Rn 83 Xs am_P d 13 (3, [(0, .ref 1), (1, .ref 59), (2, .int v2), (3, .int v3), (4, .int v4)], []) (am_sh, h, hm, g) (some (.int R), (am_sh, h, hm, g))) (v2 : Int32) (v3 : Int32) (v4 : Int32) (v6 : Int32) (s0 : Int32) (h : (Nat → Nat → Int32)) (hp : zJ_isEachAmong_J82 k3 v2 v3 v4 v6 s0 h = some R) : am_Rn 83 Xs am_P d 13 (82, [(0, .ref 1), (1, .ref 59), (2, .int v2), (3, .int v3), (4, .int v4), (6, .int v6)], [.int s0]) (am_sh, h, hm, g) (some (.int R), (am_sh, h, hm, g)) := by
  obtain ⟨d, rfl⟩ : ∃ k, d = k + 1 := ⟨d - 1, by omega⟩
  unfold zJ_isEachAmong_J82 at hp
  refine am_Rn.run am_h13 4 (F' := (89, [(7, .int s0), (0, .ref 1), (1, .ref 59), (2, .int v2), (3, .int v3), (4, .int v4), (6, .int v6)], [.int (s0 &&& v6)])) (S' := (am_sh, h, hm, g)) rfl ?_
  refine am_Rn.ite am_h13 (c := (s0 &&& v6) = 0) (t := 92) (f := 94) (lv := [(7, .int s0), (0, .ref 1), (1, .ref 59), (2, .int v2), (3, .int v3), (4, .int v4), (6, .int v6)]) (st := []) (S' := (am_sh, h, hm, g)) rfl hp (fun hc11 hp => ?_) (fun hc11 hp => ?_)
  · refine am_Rn.run am_h13 1 (F' := (93, [(7, .int s0), (0, .ref 1), (1, .ref 59), (2, .int v2), (3, .int v3), (4, .int v4), (6, .int v6)], [.int 0])) (S' := (am_sh, h, hm, g)) rfl ?_
    cases hp
    exact am_Rn.ret am_h13 rfl
  · refine am_Rn.run am_h13 2 (F' := (3, [(4, .int (v4 + 1)), (7, .int s0), (0, .ref 1), (1, .ref 59), (2, .int v2), (3, .int v3), (6, .int v6)], [])) (S' := (am_sh, h, hm, g)) rfl ?_
    refine am_Rn.sub [2, 3, 4, 5, 0] rfl rfl ?_
    exact hk3 v2 v3 (v4 + 1) h hp
def zJ_isEachAmong_J59 (k3 : Int32 → Int32 → Int32 → (Nat → Nat → Int32) → Option (Int32)) (v2 : Int32) (v3 : Int32) (v4 : Int32) (s0 : Int32) (h : (Nat → Nat → Int32)) : Option (Int32) := if v3 = 0 then ((zL_fitting v2 v4 h).bind fun r10 => zJ_isEachAmong_J82 k3 v2 v3 v4 s0 r10 h) else ((zL_nearing v2 v4 h).bind fun r12 => zJ_isEachAmong_J82 k3 v2 v3 v4 s0 r12 h)
set_option maxRecDepth 20000 in
theorem ezJ_isEachAmong_J59 {d : Nat} (hd : 1 ≤ d) (R : Int32) (k3 : Int32 → Int32 → Int32 → (Nat → Nat → Int32) → Option (Int32)) (hk3 : ∀ (v2 : Int32) (v3 : Int32) (v4 : Int32) (h : (Nat → Nat → Int32)), k3 v2 v3 v4 h = some R → am_Rn 83 Xs am_P d 13 (3, [(0, .ref 1), (1, .ref 59), (2, .int v2), (3, .int v3), (4, .int v4)], []) (am_sh, h, hm, g) (some (.int R), (am_sh, h, hm, g))) (v2 : Int32) (v3 : Int32) (v4 : Int32) (s0 : Int32) (h : (Nat → Nat → Int32)) (hp : zJ_isEachAmong_J59 k3 v2 v3 v4 s0 h = some R) : am_Rn 83 Xs am_P d 13 (59, [(0, .ref 1), (1, .ref 59), (2, .int v2), (3, .int v3), (4, .int v4)], [.int s0]) (am_sh, h, hm, g) (some (.int R), (am_sh, h, hm, g)) := by
  obtain ⟨d, rfl⟩ : ∃ k, d = k + 1 := ⟨d - 1, by omega⟩
  unfold zJ_isEachAmong_J59 at hp
  refine am_Rn.run am_h13 2 (F' := (62, [(6, .int s0), (0, .ref 1), (1, .ref 59), (2, .int v2), (3, .int v3), (4, .int v4)], [.int v3])) (S' := (am_sh, h, hm, g)) rfl ?_
  refine am_Rn.ite am_h13 (c := v3 = 0) (t := 75) (f := 65) (lv := [(6, .int s0), (0, .ref 1), (1, .ref 59), (2, .int v2), (3, .int v3), (4, .int v4)]) (st := []) (S' := (am_sh, h, hm, g)) rfl hp (fun hc9 hp => ?_) (fun hc9 hp => ?_)
  · refine am_Rn.run am_h13 3 (F' := (79, [(6, .int s0), (0, .ref 1), (1, .ref 59), (2, .int v2), (3, .int v3), (4, .int v4)], [.int v4, .int v2, .ref 59])) (S' := (am_sh, h, hm, g)) rfl ?_
    obtain ⟨r10, h_r10, hp⟩ := am_bind hp
    refine am_Rn.call am_h13 (mj := 21) (As := [.ref 59, .int v2, .int v4]) (F' := (82, [(6, .int s0), (0, .ref 1), (1, .ref 59), (2, .int v2), (3, .int v3), (4, .int v4)], [])) (M' := am_m21) (r := some (.int r10)) (S1 := (am_sh, h, hm, g)) rfl am_h21 rfl (ezL_fitting (by omega) v2 v4 h _ h_r10) ?_
    refine am_Rn.sub [1, 2, 3, 4, 5, 0] rfl rfl ?_
    exact ezJ_isEachAmong_J82 hd R k3 hk3 v2 v3 v4 s0 r10 h hp
  · refine am_Rn.run am_h13 3 (F' := (69, [(6, .int s0), (0, .ref 1), (1, .ref 59), (2, .int v2), (3, .int v3), (4, .int v4)], [.int v4, .int v2, .ref 59])) (S' := (am_sh, h, hm, g)) rfl ?_
    obtain ⟨r12, h_r12, hp⟩ := am_bind hp
    refine am_Rn.call am_h13 (mj := 20) (As := [.ref 59, .int v2, .int v4]) (F' := (72, [(6, .int s0), (0, .ref 1), (1, .ref 59), (2, .int v2), (3, .int v3), (4, .int v4)], [])) (M' := am_m20) (r := some (.int r12)) (S1 := (am_sh, h, hm, g)) rfl am_h20 rfl (ezL_nearing (by omega) v2 v4 h _ h_r12) ?_
    refine am_Rn.run am_h13 1 (F' := (82, [(6, .int s0), (0, .ref 1), (1, .ref 59), (2, .int v2), (3, .int v3), (4, .int v4)], [.int r12])) (S' := (am_sh, h, hm, g)) rfl ?_
    refine am_Rn.sub [1, 2, 3, 4, 5, 0] rfl rfl ?_
    exact ezJ_isEachAmong_J82 hd R k3 hk3 v2 v3 v4 s0 r12 h hp
def zJ_isEachAmong_L3 : Nat → Int32 → Int32 → Int32 → (Nat → Nat → Int32) → Option (Int32)
  | 0, _, _, _, _ => none
  | n + 1, v2, v3, v4, h => if v4 < (h 1 4) then ((zG_isOn v2 v4 h).bind fun r2 => if r2 = 0 then (zJ_isEachAmong_L3 n v2 v3 (v4 + 1) h) else (am_ix 144 ((v2 * 6) + v4) (am_b (h 9 (((v2 * 6) + v4).toNatClampNeg)) fun x5 => am_ix 6 v4 (if (h 4 (v4.toNatClampNeg)) = 2 then ((zH_ownerOfHands x5).bind fun r8 => zJ_isEachAmong_J59 (fun v2 v3 v4 h => zJ_isEachAmong_L3 n v2 v3 v4 h) v2 v3 v4 ((1 : Int32) <<< (r8 &&& 31)) h) else (zJ_isEachAmong_J59 (fun v2 v3 v4 h => zJ_isEachAmong_L3 n v2 v3 v4 h) v2 v3 v4 x5 h))))) else (some 1)
set_option maxRecDepth 20000 in
theorem ezJ_isEachAmong_L3 {d : Nat} (hd : 1 ≤ d) (R : Int32) : ∀ (n : Nat) (v2 : Int32) (v3 : Int32) (v4 : Int32) (h : (Nat → Nat → Int32)), zJ_isEachAmong_L3 n v2 v3 v4 h = some R → am_Rn 83 Xs am_P d 13 (3, [(0, .ref 1), (1, .ref 59), (2, .int v2), (3, .int v3), (4, .int v4)], []) (am_sh, h, hm, g) (some (.int R), (am_sh, h, hm, g))
  | 0, _, _, _, _, hp => by cases hp
  | n + 1, v2, v3, v4, h, hp => by
    obtain ⟨d, rfl⟩ : ∃ k, d = k + 1 := ⟨d - 1, by omega⟩
    unfold zJ_isEachAmong_L3 at hp
    refine am_Rn.run am_h13 3 (F' := (9, [(0, .ref 1), (1, .ref 59), (2, .int v2), (3, .int v3), (4, .int v4)], [.int (h 1 4), .int v4])) (S' := (am_sh, h, hm, g)) rfl ?_
    refine am_Rn.ite am_h13 (c := v4 < (h 1 4)) (t := 12) (f := 100) (lv := [(0, .ref 1), (1, .ref 59), (2, .int v2), (3, .int v3), (4, .int v4)]) (st := []) (S' := (am_sh, h, hm, g)) rfl hp (fun hc1 hp => ?_) (fun hc1 hp => ?_)
    · refine am_Rn.run am_h13 3 (F' := (16, [(0, .ref 1), (1, .ref 59), (2, .int v2), (3, .int v3), (4, .int v4)], [.int v4, .int v2, .ref 1])) (S' := (am_sh, h, hm, g)) rfl ?_
      obtain ⟨r2, h_r2, hp⟩ := am_bind hp
      refine am_Rn.call am_h13 (mj := 85) (As := [.ref 1, .int v2, .int v4]) (F' := (19, [(0, .ref 1), (1, .ref 59), (2, .int v2), (3, .int v3), (4, .int v4)], [])) (M' := am_m85) (r := some (.int r2)) (S1 := (am_sh, h, hm, g)) rfl am_h85 rfl (ezG_isOn (by omega) v2 v4 h _ h_r2) ?_
      refine am_Rn.ite am_h13 (c := r2 = 0) (t := 94) (f := 22) (lv := [(0, .ref 1), (1, .ref 59), (2, .int v2), (3, .int v3), (4, .int v4)]) (st := []) (S' := (am_sh, h, hm, g)) rfl hp (fun hc3 hp => ?_) (fun hc3 hp => ?_)
      · refine am_Rn.run am_h13 2 (F' := (3, [(4, .int (v4 + 1)), (0, .ref 1), (1, .ref 59), (2, .int v2), (3, .int v3)], [])) (S' := (am_sh, h, hm, g)) rfl ?_
        refine am_Rn.sub [1, 2, 3, 4, 0] rfl rfl ?_
        exact ezJ_isEachAmong_L3 hd R n v2 v3 (v4 + 1) h hp
      · refine am_Rn.run am_h13 7 (F' := (33, [(0, .ref 1), (1, .ref 59), (2, .int v2), (3, .int v3), (4, .int v4)], [.int ((v2 * 6) + v4), .ref 9])) (S' := (am_sh, h, hm, g)) rfl ?_
        obtain ⟨hn4, hp⟩ := am_ix_e hp
        refine am_Rn.stepG am_h13 (c := ((v2 * 6) + v4) < 0 ∨ 144 ≤ ((v2 * 6) + v4).toNatClampNeg) (F' := (34, [(0, .ref 1), (1, .ref 59), (2, .int v2), (3, .int v3), (4, .int v4)], [.int (h 9 (((v2 * 6) + v4).toNatClampNeg))])) (S' := (am_sh, h, hm, g)) rfl hn4 ?_
        obtain ⟨x5, h_x5, hp⟩ := am_b_e hp
        refine am_Rn.run am_h13 4 (F' := (42, [(5, .int x5), (0, .ref 1), (1, .ref 59), (2, .int v2), (3, .int v3), (4, .int v4)], [.int v4, .ref 4])) (S' := (am_sh, h, hm, g)) (by subst h_x5; rfl) ?_
        obtain ⟨hn6, hp⟩ := am_ix_e hp
        refine am_Rn.stepG am_h13 (c := v4 < 0 ∨ 6 ≤ v4.toNatClampNeg) (F' := (43, [(5, .int x5), (0, .ref 1), (1, .ref 59), (2, .int v2), (3, .int v3), (4, .int v4)], [.int (h 4 (v4.toNatClampNeg))])) (S' := (am_sh, h, hm, g)) rfl hn6 ?_
        refine am_Rn.run am_h13 1 (F' := (44, [(5, .int x5), (0, .ref 1), (1, .ref 59), (2, .int v2), (3, .int v3), (4, .int v4)], [.int 2, .int (h 4 (v4.toNatClampNeg))])) (S' := (am_sh, h, hm, g)) rfl ?_
        refine am_Rn.ite am_h13 (c := (h 4 (v4.toNatClampNeg)) = 2) (t := 47) (f := 57) (lv := [(5, .int x5), (0, .ref 1), (1, .ref 59), (2, .int v2), (3, .int v3), (4, .int v4)]) (st := []) (S' := (am_sh, h, hm, g)) rfl hp (fun hc7 hp => ?_) (fun hc7 hp => ?_)
        · refine am_Rn.run am_h13 2 (F' := (50, [(5, .int x5), (0, .ref 1), (1, .ref 59), (2, .int v2), (3, .int v3), (4, .int v4)], [.int x5, .int 1])) (S' := (am_sh, h, hm, g)) rfl ?_
          obtain ⟨r8, h_r8, hp⟩ := am_bind hp
          refine am_Rn.call am_h13 (mj := 147) (As := [.int x5]) (F' := (53, [(5, .int x5), (0, .ref 1), (1, .ref 59), (2, .int v2), (3, .int v3), (4, .int v4)], [.int 1])) (M' := am_m147) (r := some (.int r8)) (S1 := (am_sh, h, hm, g)) rfl am_h147 rfl (ezH_ownerOfHands (by omega) x5 _ h_r8) ?_
          refine am_Rn.run am_h13 2 (F' := (59, [(5, .int x5), (0, .ref 1), (1, .ref 59), (2, .int v2), (3, .int v3), (4, .int v4)], [.int ((1 : Int32) <<< (r8 &&& 31))])) (S' := (am_sh, h, hm, g)) rfl ?_
          refine am_Rn.sub [1, 2, 3, 4, 5] rfl rfl ?_
          exact ezJ_isEachAmong_J59 hd R (fun v2 v3 v4 h => zJ_isEachAmong_L3 n v2 v3 v4 h) (fun v2 v3 v4 h hp => ezJ_isEachAmong_L3 hd R n v2 v3 v4 h hp) v2 v3 v4 ((1 : Int32) <<< (r8 &&& 31)) h hp
        · refine am_Rn.run am_h13 1 (F' := (59, [(5, .int x5), (0, .ref 1), (1, .ref 59), (2, .int v2), (3, .int v3), (4, .int v4)], [.int x5])) (S' := (am_sh, h, hm, g)) rfl ?_
          refine am_Rn.sub [1, 2, 3, 4, 5] rfl rfl ?_
          exact ezJ_isEachAmong_J59 hd R (fun v2 v3 v4 h => zJ_isEachAmong_L3 n v2 v3 v4 h) (fun v2 v3 v4 h hp => ezJ_isEachAmong_L3 hd R n v2 v3 v4 h hp) v2 v3 v4 x5 h hp
    · refine am_Rn.run am_h13 1 (F' := (101, [(0, .ref 1), (1, .ref 59), (2, .int v2), (3, .int v3), (4, .int v4)], [.int 1])) (S' := (am_sh, h, hm, g)) rfl ?_
      cases hp
      exact am_Rn.ret am_h13 rfl
def zJ_isEachAmong (v2 : Int32) (v3 : Int32) (h : (Nat → Nat → Int32)) : Option (Int32) := zJ_isEachAmong_L3 am_N v2 v3 0 h
set_option maxRecDepth 20000 in
theorem ezJ_isEachAmong {d : Nat} (hd : 1 ≤ d) (v2 : Int32) (v3 : Int32) (h : (Nat → Nat → Int32)) (R : Int32) (hp : zJ_isEachAmong v2 v3 h = some R) : am_Ev 83 Xs am_P d 13 [.ref 1, .ref 59, .int v2, .int v3] (am_sh, h, hm, g) (some (.int R), (am_sh, h, hm, g)) := by
  obtain ⟨d, rfl⟩ : ∃ k, d = k + 1 := ⟨d - 1, by omega⟩
  unfold zJ_isEachAmong at hp
  show am_Rn 83 Xs am_P _ 13 (0, [(0, .ref 1), (1, .ref 59), (2, .int v2), (3, .int v3)], []) _ _
  refine am_Rn.run am_h13 2 (F' := (3, [(4, .int 0), (0, .ref 1), (1, .ref 59), (2, .int v2), (3, .int v3)], [])) (S' := (am_sh, h, hm, g)) rfl ?_
  refine am_Rn.sub [1, 2, 3, 4, 0] rfl rfl ?_
  exact ezJ_isEachAmong_L3 hd R am_N v2 v3 0 h hp
/-- SixHands$Stage.orderOf(I)I [1] -/
def zG_orderOf_L9 : Nat → Int32 → Int32 → Int32 → Int32 → (Nat → Nat → Int32) → Option (Int32)
  | 0, _, _, _, _, _ => none
  | n + 1, v1, v2, v3, v4, h => if v4 < (h 1 1) then (am_ix 3 v4 (am_ix 3 v2 (if (h 2 (v4.toNatClampNeg)) < (h 2 (v2.toNatClampNeg)) then (zG_orderOf_L9 n v1 v2 (v3 + 1) (v4 + 1) h) else (am_ix 3 v4 (am_ix 3 v2 (if (h 2 (v4.toNatClampNeg)) = (h 2 (v2.toNatClampNeg)) then (if v4 < v2 then (zG_orderOf_L9 n v1 v2 (v3 + 1) (v4 + 1) h) else (zG_orderOf_L9 n v1 v2 v3 (v4 + 1) h)) else (zG_orderOf_L9 n v1 v2 v3 (v4 + 1) h))))))) else (some ((2 * v3) + (v1 &&& 1)))
set_option maxRecDepth 20000 in
theorem ezG_orderOf_L9 {d : Nat} (hd : 0 ≤ d) (R : Int32) : ∀ (n : Nat) (v1 : Int32) (v2 : Int32) (v3 : Int32) (v4 : Int32) (h : (Nat → Nat → Int32)), zG_orderOf_L9 n v1 v2 v3 v4 h = some R → am_Rn 83 Xs am_P d 83 (9, [(0, .ref 1), (1, .int v1), (2, .int v2), (3, .int v3), (4, .int v4)], []) (am_sh, h, hm, g) (some (.int R), (am_sh, h, hm, g))
  | 0, _, _, _, _, _, hp => by cases hp
  | n + 1, v1, v2, v3, v4, h, hp => by
    unfold zG_orderOf_L9 at hp
    refine am_Rn.run am_h83 3 (F' := (15, [(0, .ref 1), (1, .int v1), (2, .int v2), (3, .int v3), (4, .int v4)], [.int (h 1 1), .int v4])) (S' := (am_sh, h, hm, g)) rfl ?_
    refine am_Rn.ite am_h83 (c := v4 < (h 1 1)) (t := 18) (f := 65) (lv := [(0, .ref 1), (1, .int v1), (2, .int v2), (3, .int v3), (4, .int v4)]) (st := []) (S' := (am_sh, h, hm, g)) rfl hp (fun hc2 hp => ?_) (fun hc2 hp => ?_)
    · refine am_Rn.run am_h83 3 (F' := (24, [(0, .ref 1), (1, .int v1), (2, .int v2), (3, .int v3), (4, .int v4)], [.int v4, .ref 2])) (S' := (am_sh, h, hm, g)) rfl ?_
      obtain ⟨hn3, hp⟩ := am_ix_e hp
      refine am_Rn.stepG am_h83 (c := v4 < 0 ∨ 3 ≤ v4.toNatClampNeg) (F' := (25, [(0, .ref 1), (1, .int v1), (2, .int v2), (3, .int v3), (4, .int v4)], [.int (h 2 (v4.toNatClampNeg))])) (S' := (am_sh, h, hm, g)) rfl hn3 ?_
      refine am_Rn.run am_h83 3 (F' := (30, [(0, .ref 1), (1, .int v1), (2, .int v2), (3, .int v3), (4, .int v4)], [.int v2, .ref 2, .int (h 2 (v4.toNatClampNeg))])) (S' := (am_sh, h, hm, g)) rfl ?_
      obtain ⟨hn4, hp⟩ := am_ix_e hp
      refine am_Rn.stepG am_h83 (c := v2 < 0 ∨ 3 ≤ v2.toNatClampNeg) (F' := (31, [(0, .ref 1), (1, .int v1), (2, .int v2), (3, .int v3), (4, .int v4)], [.int (h 2 (v2.toNatClampNeg)), .int (h 2 (v4.toNatClampNeg))])) (S' := (am_sh, h, hm, g)) rfl hn4 ?_
      refine am_Rn.ite am_h83 (c := (h 2 (v4.toNatClampNeg)) < (h 2 (v2.toNatClampNeg))) (t := 56) (f := 34) (lv := [(0, .ref 1), (1, .int v1), (2, .int v2), (3, .int v3), (4, .int v4)]) (st := []) (S' := (am_sh, h, hm, g)) rfl hp (fun hc5 hp => ?_) (fun hc5 hp => ?_)
      · refine am_Rn.run am_h83 3 (F' := (9, [(4, .int (v4 + 1)), (3, .int (v3 + 1)), (0, .ref 1), (1, .int v1), (2, .int v2)], [])) (S' := (am_sh, h, hm, g)) rfl ?_
        refine am_Rn.sub [2, 3, 4, 1, 0] rfl rfl ?_
        exact ezG_orderOf_L9 hd R n v1 v2 (v3 + 1) (v4 + 1) h hp
      · refine am_Rn.run am_h83 3 (F' := (40, [(0, .ref 1), (1, .int v1), (2, .int v2), (3, .int v3), (4, .int v4)], [.int v4, .ref 2])) (S' := (am_sh, h, hm, g)) rfl ?_
        obtain ⟨hn6, hp⟩ := am_ix_e hp
        refine am_Rn.stepG am_h83 (c := v4 < 0 ∨ 3 ≤ v4.toNatClampNeg) (F' := (41, [(0, .ref 1), (1, .int v1), (2, .int v2), (3, .int v3), (4, .int v4)], [.int (h 2 (v4.toNatClampNeg))])) (S' := (am_sh, h, hm, g)) rfl hn6 ?_
        refine am_Rn.run am_h83 3 (F' := (46, [(0, .ref 1), (1, .int v1), (2, .int v2), (3, .int v3), (4, .int v4)], [.int v2, .ref 2, .int (h 2 (v4.toNatClampNeg))])) (S' := (am_sh, h, hm, g)) rfl ?_
        obtain ⟨hn7, hp⟩ := am_ix_e hp
        refine am_Rn.stepG am_h83 (c := v2 < 0 ∨ 3 ≤ v2.toNatClampNeg) (F' := (47, [(0, .ref 1), (1, .int v1), (2, .int v2), (3, .int v3), (4, .int v4)], [.int (h 2 (v2.toNatClampNeg)), .int (h 2 (v4.toNatClampNeg))])) (S' := (am_sh, h, hm, g)) rfl hn7 ?_
        refine am_Rn.ite am_h83 (c := (h 2 (v4.toNatClampNeg)) = (h 2 (v2.toNatClampNeg))) (t := 50) (f := 59) (lv := [(0, .ref 1), (1, .int v1), (2, .int v2), (3, .int v3), (4, .int v4)]) (st := []) (S' := (am_sh, h, hm, g)) rfl hp (fun hc8 hp => ?_) (fun hc8 hp => ?_)
        · refine am_Rn.run am_h83 2 (F' := (53, [(0, .ref 1), (1, .int v1), (2, .int v2), (3, .int v3), (4, .int v4)], [.int v2, .int v4])) (S' := (am_sh, h, hm, g)) rfl ?_
          refine am_Rn.ite am_h83 (c := v4 < v2) (t := 56) (f := 59) (lv := [(0, .ref 1), (1, .int v1), (2, .int v2), (3, .int v3), (4, .int v4)]) (st := []) (S' := (am_sh, h, hm, g)) rfl hp (fun hc9 hp => ?_) (fun hc9 hp => ?_)
          · refine am_Rn.run am_h83 3 (F' := (9, [(4, .int (v4 + 1)), (3, .int (v3 + 1)), (0, .ref 1), (1, .int v1), (2, .int v2)], [])) (S' := (am_sh, h, hm, g)) rfl ?_
            refine am_Rn.sub [2, 3, 4, 1, 0] rfl rfl ?_
            exact ezG_orderOf_L9 hd R n v1 v2 (v3 + 1) (v4 + 1) h hp
          · refine am_Rn.run am_h83 2 (F' := (9, [(4, .int (v4 + 1)), (0, .ref 1), (1, .int v1), (2, .int v2), (3, .int v3)], [])) (S' := (am_sh, h, hm, g)) rfl ?_
            refine am_Rn.sub [1, 2, 3, 4, 0] rfl rfl ?_
            exact ezG_orderOf_L9 hd R n v1 v2 v3 (v4 + 1) h hp
        · refine am_Rn.run am_h83 2 (F' := (9, [(4, .int (v4 + 1)), (0, .ref 1), (1, .int v1), (2, .int v2), (3, .int v3)], [])) (S' := (am_sh, h, hm, g)) rfl ?_
          refine am_Rn.sub [1, 2, 3, 4, 0] rfl rfl ?_
          exact ezG_orderOf_L9 hd R n v1 v2 v3 (v4 + 1) h hp
    · refine am_Rn.run am_h83 7 (F' := (72, [(0, .ref 1), (1, .int v1), (2, .int v2), (3, .int v3), (4, .int v4)], [.int ((2 * v3) + (v1 &&& 1))])) (S' := (am_sh, h, hm, g)) rfl ?_
      cases hp
      exact am_Rn.ret am_h83 rfl
def zG_orderOf (v1 : Int32) (h : (Nat → Nat → Int32)) : Option (Int32) := am_b (v1 >>> (1 &&& 31)) fun x1 => zG_orderOf_L9 am_N v1 x1 0 0 h
set_option maxRecDepth 20000 in
theorem ezG_orderOf {d : Nat} (hd : 0 ≤ d) (v1 : Int32) (h : (Nat → Nat → Int32)) (R : Int32) (hp : zG_orderOf v1 h = some R) : am_Ev 83 Xs am_P d 83 [.ref 1, .int v1] (am_sh, h, hm, g) (some (.int R), (am_sh, h, hm, g)) := by
  unfold zG_orderOf at hp
  show am_Rn 83 Xs am_P _ 83 (0, [(0, .ref 1), (1, .int v1)], []) _ _
  obtain ⟨x1, h_x1, hp⟩ := am_b_e hp
  refine am_Rn.run am_h83 8 (F' := (9, [(4, .int 0), (3, .int 0), (2, .int x1), (0, .ref 1), (1, .int v1)], [])) (S' := (am_sh, h, hm, g)) (by subst h_x1; rfl) ?_
  refine am_Rn.sub [3, 4, 2, 1, 0] rfl rfl ?_
  exact ezG_orderOf_L9 hd R am_N v1 x1 0 0 h hp
/-- SixHands$Judge.isAnyAhead(LSixHands$Stage;II)Z [1] -/
def zJ_isAnyAhead_L11 (k2 : Int32 → Int32 → Int32 → (Nat → Nat → Int32) → Option (Int32)) : Nat → Int32 → Int32 → Int32 → Int32 → (Nat → Nat → Int32) → Option (Int32)
  | 0, _, _, _, _, _ => none
  | n + 1, v1, v2, v3, v4, h => if v4 < 6 then (if ((v1 >>> (v3 &&& 31)) &&& 1) = 0 then (zJ_isAnyAhead_L11 k2 n v1 v2 v3 (v4 + 1) h) else (if ((v2 >>> (v4 &&& 31)) &&& 1) = 0 then (zJ_isAnyAhead_L11 k2 n v1 v2 v3 (v4 + 1) h) else ((zG_orderOf v3 h).bind fun r5 => (zG_orderOf v4 h).bind fun r6 => if r5 < r6 then (some 1) else (zJ_isAnyAhead_L11 k2 n v1 v2 v3 (v4 + 1) h)))) else (k2 v1 v2 (v3 + 1) h)
set_option maxRecDepth 20000 in
theorem ezJ_isAnyAhead_L11 {d : Nat} (hd : 1 ≤ d) (R : Int32) (k2 : Int32 → Int32 → Int32 → (Nat → Nat → Int32) → Option (Int32)) (hk2 : ∀ (v1 : Int32) (v2 : Int32) (v3 : Int32) (h : (Nat → Nat → Int32)), k2 v1 v2 v3 h = some R → am_Rn 83 Xs am_P d 15 (2, [(0, .ref 1), (1, .int v1), (2, .int v2), (3, .int v3)], []) (am_sh, h, hm, g) (some (.int R), (am_sh, h, hm, g))) : ∀ (n : Nat) (v1 : Int32) (v2 : Int32) (v3 : Int32) (v4 : Int32) (h : (Nat → Nat → Int32)), zJ_isAnyAhead_L11 k2 n v1 v2 v3 v4 h = some R → am_Rn 83 Xs am_P d 15 (11, [(0, .ref 1), (1, .int v1), (2, .int v2), (3, .int v3), (4, .int v4)], []) (am_sh, h, hm, g) (some (.int R), (am_sh, h, hm, g))
  | 0, _, _, _, _, _, hp => by cases hp
  | n + 1, v1, v2, v3, v4, h, hp => by
    obtain ⟨d, rfl⟩ : ∃ k, d = k + 1 := ⟨d - 1, by omega⟩
    unfold zJ_isAnyAhead_L11 at hp
    refine am_Rn.run am_h15 2 (F' := (15, [(0, .ref 1), (1, .int v1), (2, .int v2), (3, .int v3), (4, .int v4)], [.int 6, .int v4])) (S' := (am_sh, h, hm, g)) rfl ?_
    refine am_Rn.ite am_h15 (c := v4 < 6) (t := 18) (f := 57) (lv := [(0, .ref 1), (1, .int v1), (2, .int v2), (3, .int v3), (4, .int v4)]) (st := []) (S' := (am_sh, h, hm, g)) rfl hp (fun hc2 hp => ?_) (fun hc2 hp => ?_)
    · refine am_Rn.run am_h15 5 (F' := (23, [(0, .ref 1), (1, .int v1), (2, .int v2), (3, .int v3), (4, .int v4)], [.int ((v1 >>> (v3 &&& 31)) &&& 1)])) (S' := (am_sh, h, hm, g)) rfl ?_
      refine am_Rn.ite am_h15 (c := ((v1 >>> (v3 &&& 31)) &&& 1) = 0) (t := 51) (f := 26) (lv := [(0, .ref 1), (1, .int v1), (2, .int v2), (3, .int v3), (4, .int v4)]) (st := []) (S' := (am_sh, h, hm, g)) rfl hp (fun hc3 hp => ?_) (fun hc3 hp => ?_)
      · refine am_Rn.run am_h15 2 (F' := (11, [(4, .int (v4 + 1)), (0, .ref 1), (1, .int v1), (2, .int v2), (3, .int v3)], [])) (S' := (am_sh, h, hm, g)) rfl ?_
        refine am_Rn.sub [1, 2, 3, 4, 0] rfl rfl ?_
        exact ezJ_isAnyAhead_L11 hd R k2 hk2 n v1 v2 v3 (v4 + 1) h hp
      · refine am_Rn.run am_h15 5 (F' := (32, [(0, .ref 1), (1, .int v1), (2, .int v2), (3, .int v3), (4, .int v4)], [.int ((v2 >>> (v4 &&& 31)) &&& 1)])) (S' := (am_sh, h, hm, g)) rfl ?_
        refine am_Rn.ite am_h15 (c := ((v2 >>> (v4 &&& 31)) &&& 1) = 0) (t := 51) (f := 35) (lv := [(0, .ref 1), (1, .int v1), (2, .int v2), (3, .int v3), (4, .int v4)]) (st := []) (S' := (am_sh, h, hm, g)) rfl hp (fun hc4 hp => ?_) (fun hc4 hp => ?_)
        · refine am_Rn.run am_h15 2 (F' := (11, [(4, .int (v4 + 1)), (0, .ref 1), (1, .int v1), (2, .int v2), (3, .int v3)], [])) (S' := (am_sh, h, hm, g)) rfl ?_
          refine am_Rn.sub [1, 2, 3, 4, 0] rfl rfl ?_
          exact ezJ_isAnyAhead_L11 hd R k2 hk2 n v1 v2 v3 (v4 + 1) h hp
        · refine am_Rn.run am_h15 2 (F' := (37, [(0, .ref 1), (1, .int v1), (2, .int v2), (3, .int v3), (4, .int v4)], [.int v3, .ref 1])) (S' := (am_sh, h, hm, g)) rfl ?_
          obtain ⟨r5, h_r5, hp⟩ := am_bind hp
          refine am_Rn.call am_h15 (mj := 83) (As := [.ref 1, .int v3]) (F' := (40, [(0, .ref 1), (1, .int v1), (2, .int v2), (3, .int v3), (4, .int v4)], [])) (M' := am_m83) (r := some (.int r5)) (S1 := (am_sh, h, hm, g)) rfl am_h83 rfl (ezG_orderOf (by omega) v3 h _ h_r5) ?_
          refine am_Rn.run am_h15 2 (F' := (43, [(0, .ref 1), (1, .int v1), (2, .int v2), (3, .int v3), (4, .int v4)], [.int v4, .ref 1, .int r5])) (S' := (am_sh, h, hm, g)) rfl ?_
          obtain ⟨r6, h_r6, hp⟩ := am_bind hp
          refine am_Rn.call am_h15 (mj := 83) (As := [.ref 1, .int v4]) (F' := (46, [(0, .ref 1), (1, .int v1), (2, .int v2), (3, .int v3), (4, .int v4)], [.int r5])) (M' := am_m83) (r := some (.int r6)) (S1 := (am_sh, h, hm, g)) rfl am_h83 rfl (ezG_orderOf (by omega) v4 h _ h_r6) ?_
          refine am_Rn.ite am_h15 (c := r5 < r6) (t := 49) (f := 51) (lv := [(0, .ref 1), (1, .int v1), (2, .int v2), (3, .int v3), (4, .int v4)]) (st := []) (S' := (am_sh, h, hm, g)) rfl hp (fun hc7 hp => ?_) (fun hc7 hp => ?_)
          · refine am_Rn.run am_h15 1 (F' := (50, [(0, .ref 1), (1, .int v1), (2, .int v2), (3, .int v3), (4, .int v4)], [.int 1])) (S' := (am_sh, h, hm, g)) rfl ?_
            cases hp
            exact am_Rn.ret am_h15 rfl
          · refine am_Rn.run am_h15 2 (F' := (11, [(4, .int (v4 + 1)), (0, .ref 1), (1, .int v1), (2, .int v2), (3, .int v3)], [])) (S' := (am_sh, h, hm, g)) rfl ?_
            refine am_Rn.sub [1, 2, 3, 4, 0] rfl rfl ?_
            exact ezJ_isAnyAhead_L11 hd R k2 hk2 n v1 v2 v3 (v4 + 1) h hp
    · refine am_Rn.run am_h15 2 (F' := (2, [(3, .int (v3 + 1)), (0, .ref 1), (1, .int v1), (2, .int v2), (4, .int v4)], [])) (S' := (am_sh, h, hm, g)) rfl ?_
      refine am_Rn.sub [1, 2, 3, 0] rfl rfl ?_
      exact hk2 v1 v2 (v3 + 1) h hp
def zJ_isAnyAhead_L2 : Nat → Int32 → Int32 → Int32 → (Nat → Nat → Int32) → Option (Int32)
  | 0, _, _, _, _ => none
  | n + 1, v1, v2, v3, h => if v3 < 6 then (zJ_isAnyAhead_L11 (fun v1 v2 v3 h => zJ_isAnyAhead_L2 n v1 v2 v3 h) am_N v1 v2 v3 0 h) else (some 0)
set_option maxRecDepth 20000 in
theorem ezJ_isAnyAhead_L2 {d : Nat} (hd : 1 ≤ d) (R : Int32) : ∀ (n : Nat) (v1 : Int32) (v2 : Int32) (v3 : Int32) (h : (Nat → Nat → Int32)), zJ_isAnyAhead_L2 n v1 v2 v3 h = some R → am_Rn 83 Xs am_P d 15 (2, [(0, .ref 1), (1, .int v1), (2, .int v2), (3, .int v3)], []) (am_sh, h, hm, g) (some (.int R), (am_sh, h, hm, g))
  | 0, _, _, _, _, hp => by cases hp
  | n + 1, v1, v2, v3, h, hp => by
    obtain ⟨d, rfl⟩ : ∃ k, d = k + 1 := ⟨d - 1, by omega⟩
    unfold zJ_isAnyAhead_L2 at hp
    refine am_Rn.run am_h15 2 (F' := (5, [(0, .ref 1), (1, .int v1), (2, .int v2), (3, .int v3)], [.int 6, .int v3])) (S' := (am_sh, h, hm, g)) rfl ?_
    refine am_Rn.ite am_h15 (c := v3 < 6) (t := 8) (f := 63) (lv := [(0, .ref 1), (1, .int v1), (2, .int v2), (3, .int v3)]) (st := []) (S' := (am_sh, h, hm, g)) rfl hp (fun hc1 hp => ?_) (fun hc1 hp => ?_)
    · refine am_Rn.run am_h15 2 (F' := (11, [(4, .int 0), (0, .ref 1), (1, .int v1), (2, .int v2), (3, .int v3)], [])) (S' := (am_sh, h, hm, g)) rfl ?_
      refine am_Rn.sub [1, 2, 3, 4, 0] rfl rfl ?_
      exact ezJ_isAnyAhead_L11 hd R (fun v1 v2 v3 h => zJ_isAnyAhead_L2 n v1 v2 v3 h) (fun v1 v2 v3 h hp => ezJ_isAnyAhead_L2 hd R n v1 v2 v3 h hp) am_N v1 v2 v3 0 h hp
    · refine am_Rn.run am_h15 1 (F' := (64, [(0, .ref 1), (1, .int v1), (2, .int v2), (3, .int v3)], [.int 0])) (S' := (am_sh, h, hm, g)) rfl ?_
      cases hp
      exact am_Rn.ret am_h15 rfl
def zJ_isAnyAhead (v1 : Int32) (v2 : Int32) (h : (Nat → Nat → Int32)) : Option (Int32) := zJ_isAnyAhead_L2 am_N v1 v2 0 h
set_option maxRecDepth 20000 in
theorem ezJ_isAnyAhead {d : Nat} (hd : 1 ≤ d) (v1 : Int32) (v2 : Int32) (h : (Nat → Nat → Int32)) (R : Int32) (hp : zJ_isAnyAhead v1 v2 h = some R) : am_Ev 83 Xs am_P d 15 [.ref 1, .int v1, .int v2] (am_sh, h, hm, g) (some (.int R), (am_sh, h, hm, g)) := by
  obtain ⟨d, rfl⟩ : ∃ k, d = k + 1 := ⟨d - 1, by omega⟩
  unfold zJ_isAnyAhead at hp
  show am_Rn 83 Xs am_P _ 15 (0, [(0, .ref 1), (1, .int v1), (2, .int v2)], []) _ _
  refine am_Rn.run am_h15 2 (F' := (2, [(3, .int 0), (0, .ref 1), (1, .int v1), (2, .int v2)], [])) (S' := (am_sh, h, hm, g)) rfl ?_
  refine am_Rn.sub [1, 2, 3, 0] rfl rfl ?_
  exact ezJ_isAnyAhead_L2 hd R am_N v1 v2 0 h hp
/-- SixHands$Judge.isCrossed(LSixHands$Stage;I)Z [1] -/
def zJ_isCrossed_L12 (k2 : Int32 → Int32 → (Nat → Nat → Int32) → Option (Int32)) : Nat → Int32 → Int32 → Int32 → (Nat → Nat → Int32) → Option (Int32)
  | 0, _, _, _, _ => none
  | n + 1, v1, v2, v3, h => if v3 < (h 1 4) then (am_b (v1 * 6) fun x3 => am_ix 144 (x3 + v2) (am_ix 144 (x3 + v3) (if (h 8 ((x3 + v3).toNatClampNeg)) < (h 8 ((x3 + v2).toNatClampNeg)) then (am_ix 144 (x3 + v2) (am_ix 144 (x3 + v3) ((zJ_isAnyAhead (h 9 ((x3 + v2).toNatClampNeg)) (h 9 ((x3 + v3).toNatClampNeg)) h).bind fun r9 => if r9 = 0 then (zJ_isCrossed_L12 k2 n v1 v2 (v3 + 1) h) else (some 1)))) else (zJ_isCrossed_L12 k2 n v1 v2 (v3 + 1) h)))) else (k2 v1 (v2 + 1) h)
set_option maxRecDepth 20000 in
theorem ezJ_isCrossed_L12 {d : Nat} (hd : 2 ≤ d) (R : Int32) (k2 : Int32 → Int32 → (Nat → Nat → Int32) → Option (Int32)) (hk2 : ∀ (v1 : Int32) (v2 : Int32) (h : (Nat → Nat → Int32)), k2 v1 v2 h = some R → am_Rn 83 Xs am_P d 14 (2, [(0, .ref 1), (1, .int v1), (2, .int v2)], []) (am_sh, h, hm, g) (some (.int R), (am_sh, h, hm, g))) : ∀ (n : Nat) (v1 : Int32) (v2 : Int32) (v3 : Int32) (h : (Nat → Nat → Int32)), zJ_isCrossed_L12 k2 n v1 v2 v3 h = some R → am_Rn 83 Xs am_P d 14 (12, [(0, .ref 1), (1, .int v1), (2, .int v2), (3, .int v3)], []) (am_sh, h, hm, g) (some (.int R), (am_sh, h, hm, g))
  | 0, _, _, _, _, hp => by cases hp
  | n + 1, v1, v2, v3, h, hp => by
    obtain ⟨d, rfl⟩ : ∃ k, d = k + 1 := ⟨d - 1, by omega⟩
    unfold zJ_isCrossed_L12 at hp
    refine am_Rn.run am_h14 3 (F' := (17, [(0, .ref 1), (1, .int v1), (2, .int v2), (3, .int v3)], [.int (h 1 4), .int v3])) (S' := (am_sh, h, hm, g)) rfl ?_
    refine am_Rn.ite am_h14 (c := v3 < (h 1 4)) (t := 20) (f := 80) (lv := [(0, .ref 1), (1, .int v1), (2, .int v2), (3, .int v3)]) (st := []) (S' := (am_sh, h, hm, g)) rfl hp (fun hc2 hp => ?_) (fun hc2 hp => ?_)
    · obtain ⟨x3, h_x3, hp⟩ := am_b_e hp
      refine am_Rn.run am_h14 9 (F' := (34, [(4, .int x3), (0, .ref 1), (1, .int v1), (2, .int v2), (3, .int v3)], [.int (x3 + v2), .ref 8])) (S' := (am_sh, h, hm, g)) (by subst h_x3; rfl) ?_
      obtain ⟨hn4, hp⟩ := am_ix_e hp
      refine am_Rn.stepG am_h14 (c := (x3 + v2) < 0 ∨ 144 ≤ (x3 + v2).toNatClampNeg) (F' := (35, [(4, .int x3), (0, .ref 1), (1, .int v1), (2, .int v2), (3, .int v3)], [.int (h 8 ((x3 + v2).toNatClampNeg))])) (S' := (am_sh, h, hm, g)) rfl hn4 ?_
      refine am_Rn.run am_h14 5 (F' := (43, [(4, .int x3), (0, .ref 1), (1, .int v1), (2, .int v2), (3, .int v3)], [.int (x3 + v3), .ref 8, .int (h 8 ((x3 + v2).toNatClampNeg))])) (S' := (am_sh, h, hm, g)) rfl ?_
      obtain ⟨hn5, hp⟩ := am_ix_e hp
      refine am_Rn.stepG am_h14 (c := (x3 + v3) < 0 ∨ 144 ≤ (x3 + v3).toNatClampNeg) (F' := (44, [(4, .int x3), (0, .ref 1), (1, .int v1), (2, .int v2), (3, .int v3)], [.int (h 8 ((x3 + v3).toNatClampNeg)), .int (h 8 ((x3 + v2).toNatClampNeg))])) (S' := (am_sh, h, hm, g)) rfl hn5 ?_
      refine am_Rn.ite am_h14 (c := (h 8 ((x3 + v3).toNatClampNeg)) < (h 8 ((x3 + v2).toNatClampNeg))) (t := 47) (f := 74) (lv := [(4, .int x3), (0, .ref 1), (1, .int v1), (2, .int v2), (3, .int v3)]) (st := []) (S' := (am_sh, h, hm, g)) rfl hp (fun hc6 hp => ?_) (fun hc6 hp => ?_)
      · refine am_Rn.run am_h14 6 (F' := (56, [(4, .int x3), (0, .ref 1), (1, .int v1), (2, .int v2), (3, .int v3)], [.int (x3 + v2), .ref 9, .ref 1])) (S' := (am_sh, h, hm, g)) rfl ?_
        obtain ⟨hn7, hp⟩ := am_ix_e hp
        refine am_Rn.stepG am_h14 (c := (x3 + v2) < 0 ∨ 144 ≤ (x3 + v2).toNatClampNeg) (F' := (57, [(4, .int x3), (0, .ref 1), (1, .int v1), (2, .int v2), (3, .int v3)], [.int (h 9 ((x3 + v2).toNatClampNeg)), .ref 1])) (S' := (am_sh, h, hm, g)) rfl hn7 ?_
        refine am_Rn.run am_h14 5 (F' := (65, [(4, .int x3), (0, .ref 1), (1, .int v1), (2, .int v2), (3, .int v3)], [.int (x3 + v3), .ref 9, .int (h 9 ((x3 + v2).toNatClampNeg)), .ref 1])) (S' := (am_sh, h, hm, g)) rfl ?_
        obtain ⟨hn8, hp⟩ := am_ix_e hp
        refine am_Rn.stepG am_h14 (c := (x3 + v3) < 0 ∨ 144 ≤ (x3 + v3).toNatClampNeg) (F' := (66, [(4, .int x3), (0, .ref 1), (1, .int v1), (2, .int v2), (3, .int v3)], [.int (h 9 ((x3 + v3).toNatClampNeg)), .int (h 9 ((x3 + v2).toNatClampNeg)), .ref 1])) (S' := (am_sh, h, hm, g)) rfl hn8 ?_
        obtain ⟨r9, h_r9, hp⟩ := am_bind hp
        refine am_Rn.call am_h14 (mj := 15) (As := [.ref 1, .int (h 9 ((x3 + v2).toNatClampNeg)), .int (h 9 ((x3 + v3).toNatClampNeg))]) (F' := (69, [(4, .int x3), (0, .ref 1), (1, .int v1), (2, .int v2), (3, .int v3)], [])) (M' := am_m15) (r := some (.int r9)) (S1 := (am_sh, h, hm, g)) rfl am_h15 rfl (ezJ_isAnyAhead (by omega) (h 9 ((x3 + v2).toNatClampNeg)) (h 9 ((x3 + v3).toNatClampNeg)) h _ h_r9) ?_
        refine am_Rn.ite am_h14 (c := r9 = 0) (t := 74) (f := 72) (lv := [(4, .int x3), (0, .ref 1), (1, .int v1), (2, .int v2), (3, .int v3)]) (st := []) (S' := (am_sh, h, hm, g)) rfl hp (fun hc10 hp => ?_) (fun hc10 hp => ?_)
        · refine am_Rn.run am_h14 2 (F' := (12, [(3, .int (v3 + 1)), (4, .int x3), (0, .ref 1), (1, .int v1), (2, .int v2)], [])) (S' := (am_sh, h, hm, g)) rfl ?_
          refine am_Rn.sub [2, 3, 4, 0] rfl rfl ?_
          exact ezJ_isCrossed_L12 hd R k2 hk2 n v1 v2 (v3 + 1) h hp
        · refine am_Rn.run am_h14 1 (F' := (73, [(4, .int x3), (0, .ref 1), (1, .int v1), (2, .int v2), (3, .int v3)], [.int 1])) (S' := (am_sh, h, hm, g)) rfl ?_
          cases hp
          exact am_Rn.ret am_h14 rfl
      · refine am_Rn.run am_h14 2 (F' := (12, [(3, .int (v3 + 1)), (4, .int x3), (0, .ref 1), (1, .int v1), (2, .int v2)], [])) (S' := (am_sh, h, hm, g)) rfl ?_
        refine am_Rn.sub [2, 3, 4, 0] rfl rfl ?_
        exact ezJ_isCrossed_L12 hd R k2 hk2 n v1 v2 (v3 + 1) h hp
    · refine am_Rn.run am_h14 2 (F' := (2, [(2, .int (v2 + 1)), (0, .ref 1), (1, .int v1), (3, .int v3)], [])) (S' := (am_sh, h, hm, g)) rfl ?_
      refine am_Rn.sub [1, 2, 0] rfl rfl ?_
      exact hk2 v1 (v2 + 1) h hp
def zJ_isCrossed_L2 : Nat → Int32 → Int32 → (Nat → Nat → Int32) → Option (Int32)
  | 0, _, _, _ => none
  | n + 1, v1, v2, h => if v2 < (h 1 4) then (zJ_isCrossed_L12 (fun v1 v2 h => zJ_isCrossed_L2 n v1 v2 h) am_N v1 v2 0 h) else (some 0)
set_option maxRecDepth 20000 in
theorem ezJ_isCrossed_L2 {d : Nat} (hd : 2 ≤ d) (R : Int32) : ∀ (n : Nat) (v1 : Int32) (v2 : Int32) (h : (Nat → Nat → Int32)), zJ_isCrossed_L2 n v1 v2 h = some R → am_Rn 83 Xs am_P d 14 (2, [(0, .ref 1), (1, .int v1), (2, .int v2)], []) (am_sh, h, hm, g) (some (.int R), (am_sh, h, hm, g))
  | 0, _, _, _, hp => by cases hp
  | n + 1, v1, v2, h, hp => by
    obtain ⟨d, rfl⟩ : ∃ k, d = k + 1 := ⟨d - 1, by omega⟩
    unfold zJ_isCrossed_L2 at hp
    refine am_Rn.run am_h14 3 (F' := (7, [(0, .ref 1), (1, .int v1), (2, .int v2)], [.int (h 1 4), .int v2])) (S' := (am_sh, h, hm, g)) rfl ?_
    refine am_Rn.ite am_h14 (c := v2 < (h 1 4)) (t := 10) (f := 86) (lv := [(0, .ref 1), (1, .int v1), (2, .int v2)]) (st := []) (S' := (am_sh, h, hm, g)) rfl hp (fun hc1 hp => ?_) (fun hc1 hp => ?_)
    · refine am_Rn.run am_h14 2 (F' := (12, [(3, .int 0), (0, .ref 1), (1, .int v1), (2, .int v2)], [])) (S' := (am_sh, h, hm, g)) rfl ?_
      refine am_Rn.sub [1, 2, 3, 0] rfl rfl ?_
      exact ezJ_isCrossed_L12 hd R (fun v1 v2 h => zJ_isCrossed_L2 n v1 v2 h) (fun v1 v2 h hp => ezJ_isCrossed_L2 hd R n v1 v2 h hp) am_N v1 v2 0 h hp
    · refine am_Rn.run am_h14 1 (F' := (87, [(0, .ref 1), (1, .int v1), (2, .int v2)], [.int 0])) (S' := (am_sh, h, hm, g)) rfl ?_
      cases hp
      exact am_Rn.ret am_h14 rfl
def zJ_isCrossed (v1 : Int32) (h : (Nat → Nat → Int32)) : Option (Int32) := zJ_isCrossed_L2 am_N v1 0 h
set_option maxRecDepth 20000 in
theorem ezJ_isCrossed {d : Nat} (hd : 2 ≤ d) (v1 : Int32) (h : (Nat → Nat → Int32)) (R : Int32) (hp : zJ_isCrossed v1 h = some R) : am_Ev 83 Xs am_P d 14 [.ref 1, .int v1] (am_sh, h, hm, g) (some (.int R), (am_sh, h, hm, g)) := by
  obtain ⟨d, rfl⟩ : ∃ k, d = k + 1 := ⟨d - 1, by omega⟩
  unfold zJ_isCrossed at hp
  show am_Rn 83 Xs am_P _ 14 (0, [(0, .ref 1), (1, .int v1)], []) _ _
  refine am_Rn.run am_h14 2 (F' := (2, [(2, .int 0), (0, .ref 1), (1, .int v1)], [])) (S' := (am_sh, h, hm, g)) rfl ?_
  refine am_Rn.sub [1, 2, 0] rfl rfl ?_
  exact ezJ_isCrossed_L2 hd R am_N v1 0 h hp
/-- SixHands$Stage.busyHands(I)I [1] -/
def zG_busyHands_L4 : Nat → Int32 → Int32 → Int32 → (Nat → Nat → Int32) → Option (Int32)
  | 0, _, _, _, _ => none
  | n + 1, v1, v2, v3, h => if v3 < (h 1 4) then (am_ix 144 ((v1 * 6) + v3) (am_b (v2 ||| (h 9 (((v1 * 6) + v3).toNatClampNeg))) fun x3 => zG_busyHands_L4 n v1 x3 (v3 + 1) h)) else (some v2)
set_option maxRecDepth 20000 in
theorem ezG_busyHands_L4 {d : Nat} (hd : 0 ≤ d) (R : Int32) : ∀ (n : Nat) (v1 : Int32) (v2 : Int32) (v3 : Int32) (h : (Nat → Nat → Int32)), zG_busyHands_L4 n v1 v2 v3 h = some R → am_Rn 83 Xs am_P d 88 (4, [(0, .ref 1), (1, .int v1), (2, .int v2), (3, .int v3)], []) (am_sh, h, hm, g) (some (.int R), (am_sh, h, hm, g))
  | 0, _, _, _, _, hp => by cases hp
  | n + 1, v1, v2, v3, h, hp => by
    unfold zG_busyHands_L4 at hp
    refine am_Rn.run am_h88 3 (F' := (9, [(0, .ref 1), (1, .int v1), (2, .int v2), (3, .int v3)], [.int (h 1 4), .int v3])) (S' := (am_sh, h, hm, g)) rfl ?_
    refine am_Rn.ite am_h88 (c := v3 < (h 1 4)) (t := 12) (f := 32) (lv := [(0, .ref 1), (1, .int v1), (2, .int v2), (3, .int v3)]) (st := []) (S' := (am_sh, h, hm, g)) rfl hp (fun hc1 hp => ?_) (fun hc1 hp => ?_)
    · refine am_Rn.run am_h88 8 (F' := (23, [(0, .ref 1), (1, .int v1), (2, .int v2), (3, .int v3)], [.int ((v1 * 6) + v3), .ref 9, .int v2])) (S' := (am_sh, h, hm, g)) rfl ?_
      obtain ⟨hn2, hp⟩ := am_ix_e hp
      refine am_Rn.stepG am_h88 (c := ((v1 * 6) + v3) < 0 ∨ 144 ≤ ((v1 * 6) + v3).toNatClampNeg) (F' := (24, [(0, .ref 1), (1, .int v1), (2, .int v2), (3, .int v3)], [.int (h 9 (((v1 * 6) + v3).toNatClampNeg)), .int v2])) (S' := (am_sh, h, hm, g)) rfl hn2 ?_
      obtain ⟨x3, h_x3, hp⟩ := am_b_e hp
      refine am_Rn.run am_h88 4 (F' := (4, [(3, .int (v3 + 1)), (2, .int x3), (0, .ref 1), (1, .int v1)], [])) (S' := (am_sh, h, hm, g)) (by subst h_x3; rfl) ?_
      refine am_Rn.sub [2, 3, 1, 0] rfl rfl ?_
      exact ezG_busyHands_L4 hd R n v1 x3 (v3 + 1) h hp
    · refine am_Rn.run am_h88 1 (F' := (33, [(0, .ref 1), (1, .int v1), (2, .int v2), (3, .int v3)], [.int v2])) (S' := (am_sh, h, hm, g)) rfl ?_
      cases hp
      exact am_Rn.ret am_h88 rfl
def zG_busyHands (v1 : Int32) (h : (Nat → Nat → Int32)) : Option (Int32) := zG_busyHands_L4 am_N v1 0 0 h
set_option maxRecDepth 20000 in
theorem ezG_busyHands {d : Nat} (hd : 0 ≤ d) (v1 : Int32) (h : (Nat → Nat → Int32)) (R : Int32) (hp : zG_busyHands v1 h = some R) : am_Ev 83 Xs am_P d 88 [.ref 1, .int v1] (am_sh, h, hm, g) (some (.int R), (am_sh, h, hm, g)) := by
  unfold zG_busyHands at hp
  show am_Rn 83 Xs am_P _ 88 (0, [(0, .ref 1), (1, .int v1)], []) _ _
  refine am_Rn.run am_h88 4 (F' := (4, [(3, .int 0), (2, .int 0), (0, .ref 1), (1, .int v1)], [])) (S' := (am_sh, h, hm, g)) rfl ?_
  refine am_Rn.sub [2, 3, 1, 0] rfl rfl ?_
  exact ezG_busyHands_L4 hd R am_N v1 0 0 h hp
/-- java/lang/Integer.bitCount(I)I [] -/
def zD_bitCount (v0 : Int32) : Int32 := am_b (v0 - (((v0.toUInt32 >>> ((1 : Int32).toUInt32 &&& Int32.toUInt32 31)).toInt32) &&& 1431655765)) fun x1 => am_b ((x1 &&& 858993459) + (((x1.toUInt32 >>> ((2 : Int32).toUInt32 &&& Int32.toUInt32 31)).toInt32) &&& 858993459)) fun x2 => am_b ((x2 + ((x2.toUInt32 >>> ((4 : Int32).toUInt32 &&& Int32.toUInt32 31)).toInt32)) &&& 252645135) fun x3 => am_b (x3 + ((x3.toUInt32 >>> ((8 : Int32).toUInt32 &&& Int32.toUInt32 31)).toInt32)) fun x4 => am_b (x4 + ((x4.toUInt32 >>> ((16 : Int32).toUInt32 &&& Int32.toUInt32 31)).toInt32)) fun x5 => x5 &&& 63
set_option maxRecDepth 20000 in
theorem ezD_bitCount {d : Nat} (hd : 0 ≤ d) (v0 : Int32) : am_Ev 83 Xs am_P d 0 [.int v0] S (some (.int ((zD_bitCount v0))), S) := by
  obtain ⟨R, hp⟩ : ∃ R, zD_bitCount v0 = R := ⟨_, rfl⟩
  rw [hp]
  unfold zD_bitCount at hp
  show am_Rn 83 Xs am_P _ 0 (0, [(0, .int v0)], []) _ _
  obtain ⟨x1, h_x1, hp⟩ := am_b_e hp
  obtain ⟨x2, h_x2, hp⟩ := am_b_e hp
  obtain ⟨x3, h_x3, hp⟩ := am_b_e hp
  obtain ⟨x4, h_x4, hp⟩ := am_b_e hp
  obtain ⟨x5, h_x5, hp⟩ := am_b_e hp
  refine am_Rn.run am_h0 41 (F' := (52, [(0, .int x5)], [.int (x5 &&& 63)])) (S' := S) (by subst h_x1; subst h_x2; subst h_x3; subst h_x4; subst h_x5; rfl) ?_
  subst hp
  exact am_Rn.ret am_h0 rfl
/-- SixHands$Judge.isHung(LSixHands$Stage;I)Z [1] -/
def zJ_isHung_L4 : Nat → Int32 → Int32 → Int32 → (Nat → Nat → Int32) → Option (Int32)
  | 0, _, _, _, _ => none
  | n + 1, v1, v2, v3, h => if v3 < (h 1 4) then ((zG_isOn v1 v3 h).bind fun r2 => if r2 = 0 then (zJ_isHung_L4 n v1 (v2 + 1) (v3 + 1) h) else (zJ_isHung_L4 n v1 v2 (v3 + 1) h)) else (am_b (zG_hands h) fun r4 => (zG_busyHands v1 h).bind fun r5 => am_b (zD_bitCount r5) fun r6 => if (r4 - r6) < (v2 - (h 1 9)) then (some 0) else (some 1))
set_option maxRecDepth 20000 in
theorem ezJ_isHung_L4 {d : Nat} (hd : 1 ≤ d) (R : Int32) : ∀ (n : Nat) (v1 : Int32) (v2 : Int32) (v3 : Int32) (h : (Nat → Nat → Int32)), zJ_isHung_L4 n v1 v2 v3 h = some R → am_Rn 83 Xs am_P d 16 (4, [(0, .ref 1), (1, .int v1), (2, .int v2), (3, .int v3)], []) (am_sh, h, hm, g) (some (.int R), (am_sh, h, hm, g))
  | 0, _, _, _, _, hp => by cases hp
  | n + 1, v1, v2, v3, h, hp => by
    obtain ⟨d, rfl⟩ : ∃ k, d = k + 1 := ⟨d - 1, by omega⟩
    unfold zJ_isHung_L4 at hp
    refine am_Rn.run am_h16 3 (F' := (9, [(0, .ref 1), (1, .int v1), (2, .int v2), (3, .int v3)], [.int (h 1 4), .int v3])) (S' := (am_sh, h, hm, g)) rfl ?_
    refine am_Rn.ite am_h16 (c := v3 < (h 1 4)) (t := 12) (f := 30) (lv := [(0, .ref 1), (1, .int v1), (2, .int v2), (3, .int v3)]) (st := []) (S' := (am_sh, h, hm, g)) rfl hp (fun hc1 hp => ?_) (fun hc1 hp => ?_)
    · refine am_Rn.run am_h16 3 (F' := (15, [(0, .ref 1), (1, .int v1), (2, .int v2), (3, .int v3)], [.int v3, .int v1, .ref 1])) (S' := (am_sh, h, hm, g)) rfl ?_
      obtain ⟨r2, h_r2, hp⟩ := am_bind hp
      refine am_Rn.call am_h16 (mj := 85) (As := [.ref 1, .int v1, .int v3]) (F' := (18, [(0, .ref 1), (1, .int v1), (2, .int v2), (3, .int v3)], [])) (M' := am_m85) (r := some (.int r2)) (S1 := (am_sh, h, hm, g)) rfl am_h85 rfl (ezG_isOn (by omega) v1 v3 h _ h_r2) ?_
      refine am_Rn.ite am_h16 (c := r2 = 0) (t := 21) (f := 24) (lv := [(0, .ref 1), (1, .int v1), (2, .int v2), (3, .int v3)]) (st := []) (S' := (am_sh, h, hm, g)) rfl hp (fun hc3 hp => ?_) (fun hc3 hp => ?_)
      · refine am_Rn.run am_h16 3 (F' := (4, [(3, .int (v3 + 1)), (2, .int (v2 + 1)), (0, .ref 1), (1, .int v1)], [])) (S' := (am_sh, h, hm, g)) rfl ?_
        refine am_Rn.sub [2, 3, 1, 0] rfl rfl ?_
        exact ezJ_isHung_L4 hd R n v1 (v2 + 1) (v3 + 1) h hp
      · refine am_Rn.run am_h16 2 (F' := (4, [(3, .int (v3 + 1)), (0, .ref 1), (1, .int v1), (2, .int v2)], [])) (S' := (am_sh, h, hm, g)) rfl ?_
        refine am_Rn.sub [1, 2, 3, 0] rfl rfl ?_
        exact ezJ_isHung_L4 hd R n v1 v2 (v3 + 1) h hp
    · refine am_Rn.run am_h16 5 (F' := (37, [(0, .ref 1), (1, .int v1), (2, .int v2), (3, .int v3)], [.ref 1, .int (v2 - (h 1 9))])) (S' := (am_sh, h, hm, g)) rfl ?_
      obtain ⟨r4, h_r4, hp⟩ := am_b_e hp
      refine am_Rn.call am_h16 (mj := 82) (As := [.ref 1]) (F' := (40, [(0, .ref 1), (1, .int v1), (2, .int v2), (3, .int v3)], [.int (v2 - (h 1 9))])) (M' := am_m82) (r := some (.int r4)) (S1 := (am_sh, h, hm, g)) rfl am_h82 rfl (by subst h_r4; exact (ezG_hands (by omega) h)) ?_
      refine am_Rn.run am_h16 2 (F' := (42, [(0, .ref 1), (1, .int v1), (2, .int v2), (3, .int v3)], [.int v1, .ref 1, .int r4, .int (v2 - (h 1 9))])) (S' := (am_sh, h, hm, g)) rfl ?_
      obtain ⟨r5, h_r5, hp⟩ := am_bind hp
      refine am_Rn.call am_h16 (mj := 88) (As := [.ref 1, .int v1]) (F' := (45, [(0, .ref 1), (1, .int v1), (2, .int v2), (3, .int v3)], [.int r4, .int (v2 - (h 1 9))])) (M' := am_m88) (r := some (.int r5)) (S1 := (am_sh, h, hm, g)) rfl am_h88 rfl (ezG_busyHands (by omega) v1 h _ h_r5) ?_
      obtain ⟨r6, h_r6, hp⟩ := am_b_e hp
      refine am_Rn.call am_h16 (mj := 0) (As := [.int r5]) (F' := (48, [(0, .ref 1), (1, .int v1), (2, .int v2), (3, .int v3)], [.int r4, .int (v2 - (h 1 9))])) (M' := am_m0) (r := some (.int r6)) (S1 := (am_sh, h, hm, g)) rfl am_h0 rfl (by subst h_r6; exact (ezD_bitCount (by omega) r5)) ?_
      refine am_Rn.run am_h16 1 (F' := (49, [(0, .ref 1), (1, .int v1), (2, .int v2), (3, .int v3)], [.int (r4 - r6), .int (v2 - (h 1 9))])) (S' := (am_sh, h, hm, g)) rfl ?_
      refine am_Rn.ite am_h16 (c := (r4 - r6) < (v2 - (h 1 9))) (t := 56) (f := 52) (lv := [(0, .ref 1), (1, .int v1), (2, .int v2), (3, .int v3)]) (st := []) (S' := (am_sh, h, hm, g)) rfl hp (fun hc7 hp => ?_) (fun hc7 hp => ?_)
      · refine am_Rn.run am_h16 1 (F' := (57, [(0, .ref 1), (1, .int v1), (2, .int v2), (3, .int v3)], [.int 0])) (S' := (am_sh, h, hm, g)) rfl ?_
        cases hp
        exact am_Rn.ret am_h16 rfl
      · refine am_Rn.run am_h16 2 (F' := (57, [(0, .ref 1), (1, .int v1), (2, .int v2), (3, .int v3)], [.int 1])) (S' := (am_sh, h, hm, g)) rfl ?_
        cases hp
        exact am_Rn.ret am_h16 rfl
def zJ_isHung (v1 : Int32) (h : (Nat → Nat → Int32)) : Option (Int32) := zJ_isHung_L4 am_N v1 0 0 h
set_option maxRecDepth 20000 in
theorem ezJ_isHung {d : Nat} (hd : 1 ≤ d) (v1 : Int32) (h : (Nat → Nat → Int32)) (R : Int32) (hp : zJ_isHung v1 h = some R) : am_Ev 83 Xs am_P d 16 [.ref 1, .int v1] (am_sh, h, hm, g) (some (.int R), (am_sh, h, hm, g)) := by
  obtain ⟨d, rfl⟩ : ∃ k, d = k + 1 := ⟨d - 1, by omega⟩
  unfold zJ_isHung at hp
  show am_Rn 83 Xs am_P _ 16 (0, [(0, .ref 1), (1, .int v1)], []) _ _
  refine am_Rn.run am_h16 4 (F' := (4, [(3, .int 0), (2, .int 0), (0, .ref 1), (1, .int v1)], [])) (S' := (am_sh, h, hm, g)) rfl ?_
  refine am_Rn.sub [2, 3, 1, 0] rfl rfl ?_
  exact ezJ_isHung_L4 hd R am_N v1 0 0 h hp
/-- SixHands$Stage.isSwapped(II)Z [1] -/
def zG_isSwapped (v1 : Int32) (v2 : Int32) (h : (Nat → Nat → Int32)) : Option (Int32) := am_b ((v1 * 6) + v2) fun x1 => (zG_staysOn v1 v2 h).bind fun r2 => if r2 = 0 then (some 0) else (am_ix 144 x1 (am_ix 144 (x1 - 6) (if (h 9 (x1.toNatClampNeg)) = (h 9 ((x1 - 6).toNatClampNeg)) then (some 0) else (some 1))))
set_option maxRecDepth 20000 in
theorem ezG_isSwapped {d : Nat} (hd : 2 ≤ d) (v1 : Int32) (v2 : Int32) (h : (Nat → Nat → Int32)) (R : Int32) (hp : zG_isSwapped v1 v2 h = some R) : am_Ev 83 Xs am_P d 87 [.ref 1, .int v1, .int v2] (am_sh, h, hm, g) (some (.int R), (am_sh, h, hm, g)) := by
  obtain ⟨d, rfl⟩ : ∃ k, d = k + 1 := ⟨d - 1, by omega⟩
  unfold zG_isSwapped at hp
  show am_Rn 83 Xs am_P _ 87 (0, [(0, .ref 1), (1, .int v1), (2, .int v2)], []) _ _
  obtain ⟨x1, h_x1, hp⟩ := am_b_e hp
  refine am_Rn.run am_h87 9 (F' := (10, [(3, .int x1), (0, .ref 1), (1, .int v1), (2, .int v2)], [.int v2, .int v1, .ref 1])) (S' := (am_sh, h, hm, g)) (by subst h_x1; rfl) ?_
  obtain ⟨r2, h_r2, hp⟩ := am_bind hp
  refine am_Rn.call am_h87 (mj := 86) (As := [.ref 1, .int v1, .int v2]) (F' := (13, [(3, .int x1), (0, .ref 1), (1, .int v1), (2, .int v2)], [])) (M' := am_m86) (r := some (.int r2)) (S1 := (am_sh, h, hm, g)) rfl am_h86 rfl (ezG_staysOn (by omega) v1 v2 h _ h_r2) ?_
  refine am_Rn.ite am_h87 (c := r2 = 0) (t := 38) (f := 16) (lv := [(3, .int x1), (0, .ref 1), (1, .int v1), (2, .int v2)]) (st := []) (S' := (am_sh, h, hm, g)) rfl hp (fun hc3 hp => ?_) (fun hc3 hp => ?_)
  · refine am_Rn.run am_h87 1 (F' := (39, [(3, .int x1), (0, .ref 1), (1, .int v1), (2, .int v2)], [.int 0])) (S' := (am_sh, h, hm, g)) rfl ?_
    cases hp
    exact am_Rn.ret am_h87 rfl
  · refine am_Rn.run am_h87 3 (F' := (21, [(3, .int x1), (0, .ref 1), (1, .int v1), (2, .int v2)], [.int x1, .ref 9])) (S' := (am_sh, h, hm, g)) rfl ?_
    obtain ⟨hn4, hp⟩ := am_ix_e hp
    refine am_Rn.stepG am_h87 (c := x1 < 0 ∨ 144 ≤ x1.toNatClampNeg) (F' := (22, [(3, .int x1), (0, .ref 1), (1, .int v1), (2, .int v2)], [.int (h 9 (x1.toNatClampNeg))])) (S' := (am_sh, h, hm, g)) rfl hn4 ?_
    refine am_Rn.run am_h87 5 (F' := (30, [(3, .int x1), (0, .ref 1), (1, .int v1), (2, .int v2)], [.int (x1 - 6), .ref 9, .int (h 9 (x1.toNatClampNeg))])) (S' := (am_sh, h, hm, g)) rfl ?_
    obtain ⟨hn5, hp⟩ := am_ix_e hp
    refine am_Rn.stepG am_h87 (c := (x1 - 6) < 0 ∨ 144 ≤ (x1 - 6).toNatClampNeg) (F' := (31, [(3, .int x1), (0, .ref 1), (1, .int v1), (2, .int v2)], [.int (h 9 ((x1 - 6).toNatClampNeg)), .int (h 9 (x1.toNatClampNeg))])) (S' := (am_sh, h, hm, g)) rfl hn5 ?_
    refine am_Rn.ite am_h87 (c := (h 9 (x1.toNatClampNeg)) = (h 9 ((x1 - 6).toNatClampNeg))) (t := 38) (f := 34) (lv := [(3, .int x1), (0, .ref 1), (1, .int v1), (2, .int v2)]) (st := []) (S' := (am_sh, h, hm, g)) rfl hp (fun hc6 hp => ?_) (fun hc6 hp => ?_)
    · refine am_Rn.run am_h87 1 (F' := (39, [(3, .int x1), (0, .ref 1), (1, .int v1), (2, .int v2)], [.int 0])) (S' := (am_sh, h, hm, g)) rfl ?_
      cases hp
      exact am_Rn.ret am_h87 rfl
    · refine am_Rn.run am_h87 2 (F' := (39, [(3, .int x1), (0, .ref 1), (1, .int v1), (2, .int v2)], [.int 1])) (S' := (am_sh, h, hm, g)) rfl ?_
      cases hp
      exact am_Rn.ret am_h87 rfl
/-- SixHands.swapBit(II)I [] -/
def zH_swapBit (v0 : Int32) (v1 : Int32) : Option (Int32) := if v0 = 0 then (some 0) else (if v1 = 0 then (some 0) else ((zH_ownerOfHands v0).bind fun r3 => (zH_ownerOfHands v1).bind fun r4 => am_b (zH_passBit r3 r4) fun r5 => some r5))
set_option maxRecDepth 20000 in
theorem ezH_swapBit {d : Nat} (hd : 1 ≤ d) (v0 : Int32) (v1 : Int32) (R : Int32) (hp : zH_swapBit v0 v1 = some R) : am_Ev 83 Xs am_P d 149 [.int v0, .int v1] S (some (.int R), S) := by
  obtain ⟨d, rfl⟩ : ∃ k, d = k + 1 := ⟨d - 1, by omega⟩
  unfold zH_swapBit at hp
  show am_Rn 83 Xs am_P _ 149 (0, [(0, .int v0), (1, .int v1)], []) _ _
  refine am_Rn.run am_h149 1 (F' := (1, [(0, .int v0), (1, .int v1)], [.int v0])) (S' := S) rfl ?_
  refine am_Rn.ite am_h149 (c := v0 = 0) (t := 8) (f := 4) (lv := [(0, .int v0), (1, .int v1)]) (st := []) (S' := S) rfl hp (fun hc1 hp => ?_) (fun hc1 hp => ?_)
  · refine am_Rn.run am_h149 1 (F' := (9, [(0, .int v0), (1, .int v1)], [.int 0])) (S' := S) rfl ?_
    cases hp
    exact am_Rn.ret am_h149 rfl
  · refine am_Rn.run am_h149 1 (F' := (5, [(0, .int v0), (1, .int v1)], [.int v1])) (S' := S) rfl ?_
    refine am_Rn.ite am_h149 (c := v1 = 0) (t := 8) (f := 10) (lv := [(0, .int v0), (1, .int v1)]) (st := []) (S' := S) rfl hp (fun hc2 hp => ?_) (fun hc2 hp => ?_)
    · refine am_Rn.run am_h149 1 (F' := (9, [(0, .int v0), (1, .int v1)], [.int 0])) (S' := S) rfl ?_
      cases hp
      exact am_Rn.ret am_h149 rfl
    · refine am_Rn.run am_h149 1 (F' := (11, [(0, .int v0), (1, .int v1)], [.int v0])) (S' := S) rfl ?_
      obtain ⟨r3, h_r3, hp⟩ := am_bind hp
      refine am_Rn.call am_h149 (mj := 147) (As := [.int v0]) (F' := (14, [(0, .int v0), (1, .int v1)], [])) (M' := am_m147) (r := some (.int r3)) (S1 := S) rfl am_h147 rfl (ezH_ownerOfHands (by omega) v0 _ h_r3) ?_
      refine am_Rn.run am_h149 1 (F' := (15, [(0, .int v0), (1, .int v1)], [.int v1, .int r3])) (S' := S) rfl ?_
      obtain ⟨r4, h_r4, hp⟩ := am_bind hp
      refine am_Rn.call am_h149 (mj := 147) (As := [.int v1]) (F' := (18, [(0, .int v0), (1, .int v1)], [.int r3])) (M' := am_m147) (r := some (.int r4)) (S1 := S) rfl am_h147 rfl (ezH_ownerOfHands (by omega) v1 _ h_r4) ?_
      obtain ⟨r5, h_r5, hp⟩ := am_b_e hp
      refine am_Rn.call am_h149 (mj := 148) (As := [.int r3, .int r4]) (F' := (21, [(0, .int v0), (1, .int v1)], [])) (M' := am_m148) (r := some (.int r5)) (S1 := S) rfl am_h148 rfl (by subst h_r5; exact (ezH_passBit (by omega) r3 r4)) ?_
      cases hp
      exact am_Rn.ret am_h149 rfl
/-- SixHands$Laws.passing(II)I [59] -/
def zL_passing (v1 : Int32) (v2 : Int32) (h : (Nat → Nat → Int32)) : Option (Int32) := am_ix 144 ((v1 * 6) + v2) (some (h 64 (((v1 * 6) + v2).toNatClampNeg)))
set_option maxRecDepth 20000 in
theorem ezL_passing {d : Nat} (hd : 0 ≤ d) (v1 : Int32) (v2 : Int32) (h : (Nat → Nat → Int32)) (R : Int32) (hp : zL_passing v1 v2 h = some R) : am_Ev 83 Xs am_P d 22 [.ref 59, .int v1, .int v2] (am_sh, h, hm, g) (some (.int R), (am_sh, h, hm, g)) := by
  unfold zL_passing at hp
  show am_Rn 83 Xs am_P _ 22 (0, [(0, .ref 59), (1, .int v1), (2, .int v2)], []) _ _
  refine am_Rn.run am_h22 7 (F' := (10, [(0, .ref 59), (1, .int v1), (2, .int v2)], [.int ((v1 * 6) + v2), .ref 64])) (S' := (am_sh, h, hm, g)) rfl ?_
  obtain ⟨hn1, hp⟩ := am_ix_e hp
  refine am_Rn.stepG am_h22 (c := ((v1 * 6) + v2) < 0 ∨ 144 ≤ ((v1 * 6) + v2).toNatClampNeg) (F' := (11, [(0, .ref 59), (1, .int v1), (2, .int v2)], [.int (h 64 (((v1 * 6) + v2).toNatClampNeg))])) (S' := (am_sh, h, hm, g)) rfl hn1 ?_
  cases hp
  exact am_Rn.ret am_h22 rfl
/-- SixHands$Judge.isPassed(LSixHands$Stage;LSixHands$Laws;I)Z [1, 59] -/
def zJ_isPassed_L2 : Nat → Int32 → Int32 → (Nat → Nat → Int32) → Option (Int32)
  | 0, _, _, _ => none
  | n + 1, v2, v3, h => if v3 < (h 1 4) then ((zG_isSwapped v2 v3 h).bind fun r2 => if r2 = 0 then (zJ_isPassed_L2 n v2 (v3 + 1) h) else (am_b ((v2 * 6) + v3) fun x4 => am_ix 144 (x4 - 6) (am_ix 144 x4 ((zH_swapBit (h 9 ((x4 - 6).toNatClampNeg)) (h 9 (x4.toNatClampNeg))).bind fun r7 => (zL_passing v2 v3 h).bind fun r8 => if (r8 &&& r7) = 0 then (some 0) else (zJ_isPassed_L2 n v2 (v3 + 1) h))))) else (some 1)
set_option maxRecDepth 20000 in
theorem ezJ_isPassed_L2 {d : Nat} (hd : 3 ≤ d) (R : Int32) : ∀ (n : Nat) (v2 : Int32) (v3 : Int32) (h : (Nat → Nat → Int32)), zJ_isPassed_L2 n v2 v3 h = some R → am_Rn 83 Xs am_P d 17 (2, [(0, .ref 1), (1, .ref 59), (2, .int v2), (3, .int v3)], []) (am_sh, h, hm, g) (some (.int R), (am_sh, h, hm, g))
  | 0, _, _, _, hp => by cases hp
  | n + 1, v2, v3, h, hp => by
    obtain ⟨d, rfl⟩ : ∃ k, d = k + 1 := ⟨d - 1, by omega⟩
    unfold zJ_isPassed_L2 at hp
    refine am_Rn.run am_h17 3 (F' := (7, [(0, .ref 1), (1, .ref 59), (2, .int v2), (3, .int v3)], [.int (h 1 4), .int v3])) (S' := (am_sh, h, hm, g)) rfl ?_
    refine am_Rn.ite am_h17 (c := v3 < (h 1 4)) (t := 10) (f := 69) (lv := [(0, .ref 1), (1, .ref 59), (2, .int v2), (3, .int v3)]) (st := []) (S' := (am_sh, h, hm, g)) rfl hp (fun hc1 hp => ?_) (fun hc1 hp => ?_)
    · refine am_Rn.run am_h17 3 (F' := (13, [(0, .ref 1), (1, .ref 59), (2, .int v2), (3, .int v3)], [.int v3, .int v2, .ref 1])) (S' := (am_sh, h, hm, g)) rfl ?_
      obtain ⟨r2, h_r2, hp⟩ := am_bind hp
      refine am_Rn.call am_h17 (mj := 87) (As := [.ref 1, .int v2, .int v3]) (F' := (16, [(0, .ref 1), (1, .ref 59), (2, .int v2), (3, .int v3)], [])) (M' := am_m87) (r := some (.int r2)) (S1 := (am_sh, h, hm, g)) rfl am_h87 rfl (ezG_isSwapped (by omega) v2 v3 h _ h_r2) ?_
      refine am_Rn.ite am_h17 (c := r2 = 0) (t := 63) (f := 19) (lv := [(0, .ref 1), (1, .ref 59), (2, .int v2), (3, .int v3)]) (st := []) (S' := (am_sh, h, hm, g)) rfl hp (fun hc3 hp => ?_) (fun hc3 hp => ?_)
      · refine am_Rn.run am_h17 2 (F' := (2, [(3, .int (v3 + 1)), (0, .ref 1), (1, .ref 59), (2, .int v2)], [])) (S' := (am_sh, h, hm, g)) rfl ?_
        refine am_Rn.sub [1, 2, 3, 0] rfl rfl ?_
        exact ezJ_isPassed_L2 hd R n v2 (v3 + 1) h hp
      · obtain ⟨x4, h_x4, hp⟩ := am_b_e hp
        refine am_Rn.run am_h17 11 (F' := (36, [(4, .int x4), (0, .ref 1), (1, .ref 59), (2, .int v2), (3, .int v3)], [.int (x4 - 6), .ref 9])) (S' := (am_sh, h, hm, g)) (by subst h_x4; rfl) ?_
        obtain ⟨hn5, hp⟩ := am_ix_e hp
        refine am_Rn.stepG am_h17 (c := (x4 - 6) < 0 ∨ 144 ≤ (x4 - 6).toNatClampNeg) (F' := (37, [(4, .int x4), (0, .ref 1), (1, .ref 59), (2, .int v2), (3, .int v3)], [.int (h 9 ((x4 - 6).toNatClampNeg))])) (S' := (am_sh, h, hm, g)) rfl hn5 ?_
        refine am_Rn.run am_h17 3 (F' := (43, [(4, .int x4), (0, .ref 1), (1, .ref 59), (2, .int v2), (3, .int v3)], [.int x4, .ref 9, .int (h 9 ((x4 - 6).toNatClampNeg))])) (S' := (am_sh, h, hm, g)) rfl ?_
        obtain ⟨hn6, hp⟩ := am_ix_e hp
        refine am_Rn.stepG am_h17 (c := x4 < 0 ∨ 144 ≤ x4.toNatClampNeg) (F' := (44, [(4, .int x4), (0, .ref 1), (1, .ref 59), (2, .int v2), (3, .int v3)], [.int (h 9 (x4.toNatClampNeg)), .int (h 9 ((x4 - 6).toNatClampNeg))])) (S' := (am_sh, h, hm, g)) rfl hn6 ?_
        obtain ⟨r7, h_r7, hp⟩ := am_bind hp
        refine am_Rn.call am_h17 (mj := 149) (As := [.int (h 9 ((x4 - 6).toNatClampNeg)), .int (h 9 (x4.toNatClampNeg))]) (F' := (47, [(4, .int x4), (0, .ref 1), (1, .ref 59), (2, .int v2), (3, .int v3)], [])) (M' := am_m149) (r := some (.int r7)) (S1 := (am_sh, h, hm, g)) rfl am_h149 rfl (ezH_swapBit (by omega) (h 9 ((x4 - 6).toNatClampNeg)) (h 9 (x4.toNatClampNeg)) _ h_r7) ?_
        refine am_Rn.run am_h17 4 (F' := (52, [(5, .int r7), (4, .int x4), (0, .ref 1), (1, .ref 59), (2, .int v2), (3, .int v3)], [.int v3, .int v2, .ref 59])) (S' := (am_sh, h, hm, g)) rfl ?_
        obtain ⟨r8, h_r8, hp⟩ := am_bind hp
        refine am_Rn.call am_h17 (mj := 22) (As := [.ref 59, .int v2, .int v3]) (F' := (55, [(5, .int r7), (4, .int x4), (0, .ref 1), (1, .ref 59), (2, .int v2), (3, .int v3)], [])) (M' := am_m22) (r := some (.int r8)) (S1 := (am_sh, h, hm, g)) rfl am_h22 rfl (ezL_passing (by omega) v2 v3 h _ h_r8) ?_
        refine am_Rn.run am_h17 2 (F' := (58, [(5, .int r7), (4, .int x4), (0, .ref 1), (1, .ref 59), (2, .int v2), (3, .int v3)], [.int (r8 &&& r7)])) (S' := (am_sh, h, hm, g)) rfl ?_
        refine am_Rn.ite am_h17 (c := (r8 &&& r7) = 0) (t := 61) (f := 63) (lv := [(5, .int r7), (4, .int x4), (0, .ref 1), (1, .ref 59), (2, .int v2), (3, .int v3)]) (st := []) (S' := (am_sh, h, hm, g)) rfl hp (fun hc9 hp => ?_) (fun hc9 hp => ?_)
        · refine am_Rn.run am_h17 1 (F' := (62, [(5, .int r7), (4, .int x4), (0, .ref 1), (1, .ref 59), (2, .int v2), (3, .int v3)], [.int 0])) (S' := (am_sh, h, hm, g)) rfl ?_
          cases hp
          exact am_Rn.ret am_h17 rfl
        · refine am_Rn.run am_h17 2 (F' := (2, [(3, .int (v3 + 1)), (5, .int r7), (4, .int x4), (0, .ref 1), (1, .ref 59), (2, .int v2)], [])) (S' := (am_sh, h, hm, g)) rfl ?_
          refine am_Rn.sub [3, 4, 5, 0] rfl rfl ?_
          exact ezJ_isPassed_L2 hd R n v2 (v3 + 1) h hp
    · refine am_Rn.run am_h17 1 (F' := (70, [(0, .ref 1), (1, .ref 59), (2, .int v2), (3, .int v3)], [.int 1])) (S' := (am_sh, h, hm, g)) rfl ?_
      cases hp
      exact am_Rn.ret am_h17 rfl
def zJ_isPassed (v2 : Int32) (h : (Nat → Nat → Int32)) : Option (Int32) := zJ_isPassed_L2 am_N v2 0 h
set_option maxRecDepth 20000 in
theorem ezJ_isPassed {d : Nat} (hd : 3 ≤ d) (v2 : Int32) (h : (Nat → Nat → Int32)) (R : Int32) (hp : zJ_isPassed v2 h = some R) : am_Ev 83 Xs am_P d 17 [.ref 1, .ref 59, .int v2] (am_sh, h, hm, g) (some (.int R), (am_sh, h, hm, g)) := by
  obtain ⟨d, rfl⟩ : ∃ k, d = k + 1 := ⟨d - 1, by omega⟩
  unfold zJ_isPassed at hp
  show am_Rn 83 Xs am_P _ 17 (0, [(0, .ref 1), (1, .ref 59), (2, .int v2)], []) _ _
  refine am_Rn.run am_h17 2 (F' := (2, [(3, .int 0), (0, .ref 1), (1, .ref 59), (2, .int v2)], [])) (S' := (am_sh, h, hm, g)) rfl ?_
  refine am_Rn.sub [1, 2, 3, 0] rfl rfl ?_
  exact ezJ_isPassed_L2 hd R am_N v2 0 h hp
/-- SixHands$Judge.isRested(LSixHands$Stage;I)Z [1] -/
def zJ_isRested_J54 (v2 : Int32) (h : (Nat → Nat → Int32)) : Option (Int32) := if v2 = 0 then (some 1) else (some 0)
set_option maxRecDepth 20000 in
theorem ezJ_isRested_J54 {d : Nat} (hd : 1 ≤ d) (R : Int32) (v2 : Int32) (h : (Nat → Nat → Int32)) (hp : zJ_isRested_J54 v2 h = some R) : am_Rn 83 Xs am_P d 18 (54, [(2, .int v2)], []) (am_sh, h, hm, g) (some (.int R), (am_sh, h, hm, g)) := by
  obtain ⟨d, rfl⟩ : ∃ k, d = k + 1 := ⟨d - 1, by omega⟩
  unfold zJ_isRested_J54 at hp
  refine am_Rn.run am_h18 1 (F' := (55, [(2, .int v2)], [.int v2])) (S' := (am_sh, h, hm, g)) rfl ?_
  refine am_Rn.ite am_h18 (c := v2 = 0) (t := 58) (f := 62) (lv := [(2, .int v2)]) (st := []) (S' := (am_sh, h, hm, g)) rfl hp (fun hc4 hp => ?_) (fun hc4 hp => ?_)
  · refine am_Rn.run am_h18 2 (F' := (63, [(2, .int v2)], [.int 1])) (S' := (am_sh, h, hm, g)) rfl ?_
    cases hp
    exact am_Rn.ret am_h18 rfl
  · refine am_Rn.run am_h18 1 (F' := (63, [(2, .int v2)], [.int 0])) (S' := (am_sh, h, hm, g)) rfl ?_
    cases hp
    exact am_Rn.ret am_h18 rfl
def zJ_isRested_L17 : Nat → Int32 → Int32 → Int32 → (Nat → Nat → Int32) → Option (Int32)
  | 0, _, _, _, _ => none
  | n + 1, v1, v2, v3, h => if (h 1 10) < v3 then (zJ_isRested_J54 v2 h) else (if v2 = 0 then (zJ_isRested_J54 v2 h) else (if v1 < v3 then (zJ_isRested_L17 n v1 0 (v3 + 1) h) else ((zG_busyHands (v1 - v3) h).bind fun r7 => am_b (v2 &&& r7) fun x8 => zJ_isRested_L17 n v1 x8 (v3 + 1) h)))
set_option maxRecDepth 20000 in
theorem ezJ_isRested_L17 {d : Nat} (hd : 1 ≤ d) (R : Int32) : ∀ (n : Nat) (v1 : Int32) (v2 : Int32) (v3 : Int32) (h : (Nat → Nat → Int32)), zJ_isRested_L17 n v1 v2 v3 h = some R → am_Rn 83 Xs am_P d 18 (17, [(0, .ref 1), (1, .int v1), (2, .int v2), (3, .int v3)], []) (am_sh, h, hm, g) (some (.int R), (am_sh, h, hm, g))
  | 0, _, _, _, _, hp => by cases hp
  | n + 1, v1, v2, v3, h, hp => by
    obtain ⟨d, rfl⟩ : ∃ k, d = k + 1 := ⟨d - 1, by omega⟩
    unfold zJ_isRested_L17 at hp
    refine am_Rn.run am_h18 3 (F' := (22, [(0, .ref 1), (1, .int v1), (2, .int v2), (3, .int v3)], [.int (h 1 10), .int v3])) (S' := (am_sh, h, hm, g)) rfl ?_
    refine am_Rn.ite am_h18 (c := (h 1 10) < v3) (t := 54) (f := 25) (lv := [(0, .ref 1), (1, .int v1), (2, .int v2), (3, .int v3)]) (st := []) (S' := (am_sh, h, hm, g)) rfl hp (fun hc3 hp => ?_) (fun hc3 hp => ?_)
    · refine am_Rn.sub [2] rfl rfl ?_
      exact ezJ_isRested_J54 hd R v2 h hp
    · refine am_Rn.run am_h18 1 (F' := (26, [(0, .ref 1), (1, .int v1), (2, .int v2), (3, .int v3)], [.int v2])) (S' := (am_sh, h, hm, g)) rfl ?_
      refine am_Rn.ite am_h18 (c := v2 = 0) (t := 54) (f := 29) (lv := [(0, .ref 1), (1, .int v1), (2, .int v2), (3, .int v3)]) (st := []) (S' := (am_sh, h, hm, g)) rfl hp (fun hc5 hp => ?_) (fun hc5 hp => ?_)
      · refine am_Rn.sub [2] rfl rfl ?_
        exact ezJ_isRested_J54 hd R v2 h hp
      · refine am_Rn.run am_h18 2 (F' := (31, [(0, .ref 1), (1, .int v1), (2, .int v2), (3, .int v3)], [.int v1, .int v3])) (S' := (am_sh, h, hm, g)) rfl ?_
        refine am_Rn.ite am_h18 (c := v1 < v3) (t := 34) (f := 38) (lv := [(0, .ref 1), (1, .int v1), (2, .int v2), (3, .int v3)]) (st := []) (S' := (am_sh, h, hm, g)) rfl hp (fun hc6 hp => ?_) (fun hc6 hp => ?_)
        · refine am_Rn.run am_h18 5 (F' := (17, [(3, .int (v3 + 1)), (2, .int 0), (0, .ref 1), (1, .int v1)], [])) (S' := (am_sh, h, hm, g)) rfl ?_
          refine am_Rn.sub [2, 3, 1, 0] rfl rfl ?_
          exact ezJ_isRested_L17 hd R n v1 0 (v3 + 1) h hp
        · refine am_Rn.run am_h18 5 (F' := (43, [(0, .ref 1), (1, .int v1), (2, .int v2), (3, .int v3)], [.int (v1 - v3), .ref 1, .int v2])) (S' := (am_sh, h, hm, g)) rfl ?_
          obtain ⟨r7, h_r7, hp⟩ := am_bind hp
          refine am_Rn.call am_h18 (mj := 88) (As := [.ref 1, .int (v1 - v3)]) (F' := (46, [(0, .ref 1), (1, .int v1), (2, .int v2), (3, .int v3)], [.int v2])) (M' := am_m88) (r := some (.int r7)) (S1 := (am_sh, h, hm, g)) rfl am_h88 rfl (ezG_busyHands (by omega) (v1 - v3) h _ h_r7) ?_
          obtain ⟨x8, h_x8, hp⟩ := am_b_e hp
          refine am_Rn.run am_h18 4 (F' := (17, [(3, .int (v3 + 1)), (2, .int x8), (0, .ref 1), (1, .int v1)], [])) (S' := (am_sh, h, hm, g)) (by subst h_x8; rfl) ?_
          refine am_Rn.sub [2, 3, 1, 0] rfl rfl ?_
          exact ezJ_isRested_L17 hd R n v1 x8 (v3 + 1) h hp
def zJ_isRested (v1 : Int32) (h : (Nat → Nat → Int32)) : Option (Int32) := if (h 1 10) = 0 then (some 1) else ((zG_busyHands v1 h).bind fun r2 => zJ_isRested_L17 am_N v1 r2 1 h)
set_option maxRecDepth 20000 in
theorem ezJ_isRested {d : Nat} (hd : 1 ≤ d) (v1 : Int32) (h : (Nat → Nat → Int32)) (R : Int32) (hp : zJ_isRested v1 h = some R) : am_Ev 83 Xs am_P d 18 [.ref 1, .int v1] (am_sh, h, hm, g) (some (.int R), (am_sh, h, hm, g)) := by
  obtain ⟨d, rfl⟩ : ∃ k, d = k + 1 := ⟨d - 1, by omega⟩
  unfold zJ_isRested at hp
  show am_Rn 83 Xs am_P _ 18 (0, [(0, .ref 1), (1, .int v1)], []) _ _
  refine am_Rn.run am_h18 2 (F' := (4, [(0, .ref 1), (1, .int v1)], [.int (h 1 10)])) (S' := (am_sh, h, hm, g)) rfl ?_
  refine am_Rn.ite am_h18 (c := (h 1 10) = 0) (t := 7) (f := 9) (lv := [(0, .ref 1), (1, .int v1)]) (st := []) (S' := (am_sh, h, hm, g)) rfl hp (fun hc1 hp => ?_) (fun hc1 hp => ?_)
  · refine am_Rn.run am_h18 1 (F' := (8, [(0, .ref 1), (1, .int v1)], [.int 1])) (S' := (am_sh, h, hm, g)) rfl ?_
    cases hp
    exact am_Rn.ret am_h18 rfl
  · refine am_Rn.run am_h18 2 (F' := (11, [(0, .ref 1), (1, .int v1)], [.int v1, .ref 1])) (S' := (am_sh, h, hm, g)) rfl ?_
    obtain ⟨r2, h_r2, hp⟩ := am_bind hp
    refine am_Rn.call am_h18 (mj := 88) (As := [.ref 1, .int v1]) (F' := (14, [(0, .ref 1), (1, .int v1)], [])) (M' := am_m88) (r := some (.int r2)) (S1 := (am_sh, h, hm, g)) rfl am_h88 rfl (ezG_busyHands (by omega) v1 h _ h_r2) ?_
    refine am_Rn.run am_h18 3 (F' := (17, [(3, .int 1), (2, .int r2), (0, .ref 1), (1, .int v1)], [])) (S' := (am_sh, h, hm, g)) rfl ?_
    refine am_Rn.sub [2, 3, 1, 0] rfl rfl ?_
    exact ezJ_isRested_L17 hd R am_N v1 r2 1 h hp
/-- SixHands$Judge.why(LSixHands$Stage;LSixHands$Laws;I)I [1, 59] -/
def zJ_why (v2 : Int32) (h : (Nat → Nat → Int32)) : Option (Int32) := (zJ_isHeldAsWanted v2 h).bind fun r1 => if r1 = 0 then (some 1) else ((zJ_isHeldApart v2 h).bind fun r3 => if r3 = 0 then (some 2) else ((zJ_isEachAmong v2 1 h).bind fun r5 => if r5 = 0 then (some 3) else ((zJ_isCrossed v2 h).bind fun r7 => if r7 = 0 then ((zJ_isEachAmong v2 0 h).bind fun r9 => if r9 = 0 then (some 5) else ((zJ_isHung v2 h).bind fun r11 => if r11 = 0 then (some 6) else ((zJ_isPassed v2 h).bind fun r13 => if r13 = 0 then (some 7) else ((zJ_isRested v2 h).bind fun r15 => if r15 = 0 then (some 8) else (some 0))))) else (some 4))))
set_option maxRecDepth 20000 in
theorem ezJ_why {d : Nat} (hd : 4 ≤ d) (v2 : Int32) (h : (Nat → Nat → Int32)) (R : Int32) (hp : zJ_why v2 h = some R) : am_Ev 83 Xs am_P d 9 [.ref 1, .ref 59, .int v2] (am_sh, h, hm, g) (some (.int R), (am_sh, h, hm, g)) := by
  obtain ⟨d, rfl⟩ : ∃ k, d = k + 1 := ⟨d - 1, by omega⟩
  unfold zJ_why at hp
  show am_Rn 83 Xs am_P _ 9 (0, [(0, .ref 1), (1, .ref 59), (2, .int v2)], []) _ _
  refine am_Rn.run am_h9 2 (F' := (2, [(0, .ref 1), (1, .ref 59), (2, .int v2)], [.int v2, .ref 1])) (S' := (am_sh, h, hm, g)) rfl ?_
  obtain ⟨r1, h_r1, hp⟩ := am_bind hp
  refine am_Rn.call am_h9 (mj := 10) (As := [.ref 1, .int v2]) (F' := (5, [(0, .ref 1), (1, .ref 59), (2, .int v2)], [])) (M' := am_m10) (r := some (.int r1)) (S1 := (am_sh, h, hm, g)) rfl am_h10 rfl (ezJ_isHeldAsWanted (by omega) v2 h _ h_r1) ?_
  refine am_Rn.ite am_h9 (c := r1 = 0) (t := 8) (f := 10) (lv := [(0, .ref 1), (1, .ref 59), (2, .int v2)]) (st := []) (S' := (am_sh, h, hm, g)) rfl hp (fun hc2 hp => ?_) (fun hc2 hp => ?_)
  · refine am_Rn.run am_h9 1 (F' := (9, [(0, .ref 1), (1, .ref 59), (2, .int v2)], [.int 1])) (S' := (am_sh, h, hm, g)) rfl ?_
    cases hp
    exact am_Rn.ret am_h9 rfl
  · refine am_Rn.run am_h9 2 (F' := (12, [(0, .ref 1), (1, .ref 59), (2, .int v2)], [.int v2, .ref 1])) (S' := (am_sh, h, hm, g)) rfl ?_
    obtain ⟨r3, h_r3, hp⟩ := am_bind hp
    refine am_Rn.call am_h9 (mj := 12) (As := [.ref 1, .int v2]) (F' := (15, [(0, .ref 1), (1, .ref 59), (2, .int v2)], [])) (M' := am_m12) (r := some (.int r3)) (S1 := (am_sh, h, hm, g)) rfl am_h12 rfl (ezJ_isHeldApart (by omega) v2 h _ h_r3) ?_
    refine am_Rn.ite am_h9 (c := r3 = 0) (t := 18) (f := 20) (lv := [(0, .ref 1), (1, .ref 59), (2, .int v2)]) (st := []) (S' := (am_sh, h, hm, g)) rfl hp (fun hc4 hp => ?_) (fun hc4 hp => ?_)
    · refine am_Rn.run am_h9 1 (F' := (19, [(0, .ref 1), (1, .ref 59), (2, .int v2)], [.int 2])) (S' := (am_sh, h, hm, g)) rfl ?_
      cases hp
      exact am_Rn.ret am_h9 rfl
    · refine am_Rn.run am_h9 4 (F' := (24, [(0, .ref 1), (1, .ref 59), (2, .int v2)], [.int 1, .int v2, .ref 59, .ref 1])) (S' := (am_sh, h, hm, g)) rfl ?_
      obtain ⟨r5, h_r5, hp⟩ := am_bind hp
      refine am_Rn.call am_h9 (mj := 13) (As := [.ref 1, .ref 59, .int v2, .int 1]) (F' := (27, [(0, .ref 1), (1, .ref 59), (2, .int v2)], [])) (M' := am_m13) (r := some (.int r5)) (S1 := (am_sh, h, hm, g)) rfl am_h13 rfl (ezJ_isEachAmong (by omega) v2 1 h _ h_r5) ?_
      refine am_Rn.ite am_h9 (c := r5 = 0) (t := 30) (f := 32) (lv := [(0, .ref 1), (1, .ref 59), (2, .int v2)]) (st := []) (S' := (am_sh, h, hm, g)) rfl hp (fun hc6 hp => ?_) (fun hc6 hp => ?_)
      · refine am_Rn.run am_h9 1 (F' := (31, [(0, .ref 1), (1, .ref 59), (2, .int v2)], [.int 3])) (S' := (am_sh, h, hm, g)) rfl ?_
        cases hp
        exact am_Rn.ret am_h9 rfl
      · refine am_Rn.run am_h9 2 (F' := (34, [(0, .ref 1), (1, .ref 59), (2, .int v2)], [.int v2, .ref 1])) (S' := (am_sh, h, hm, g)) rfl ?_
        obtain ⟨r7, h_r7, hp⟩ := am_bind hp
        refine am_Rn.call am_h9 (mj := 14) (As := [.ref 1, .int v2]) (F' := (37, [(0, .ref 1), (1, .ref 59), (2, .int v2)], [])) (M' := am_m14) (r := some (.int r7)) (S1 := (am_sh, h, hm, g)) rfl am_h14 rfl (ezJ_isCrossed (by omega) v2 h _ h_r7) ?_
        refine am_Rn.ite am_h9 (c := r7 = 0) (t := 42) (f := 40) (lv := [(0, .ref 1), (1, .ref 59), (2, .int v2)]) (st := []) (S' := (am_sh, h, hm, g)) rfl hp (fun hc8 hp => ?_) (fun hc8 hp => ?_)
        · refine am_Rn.run am_h9 4 (F' := (46, [(0, .ref 1), (1, .ref 59), (2, .int v2)], [.int 0, .int v2, .ref 59, .ref 1])) (S' := (am_sh, h, hm, g)) rfl ?_
          obtain ⟨r9, h_r9, hp⟩ := am_bind hp
          refine am_Rn.call am_h9 (mj := 13) (As := [.ref 1, .ref 59, .int v2, .int 0]) (F' := (49, [(0, .ref 1), (1, .ref 59), (2, .int v2)], [])) (M' := am_m13) (r := some (.int r9)) (S1 := (am_sh, h, hm, g)) rfl am_h13 rfl (ezJ_isEachAmong (by omega) v2 0 h _ h_r9) ?_
          refine am_Rn.ite am_h9 (c := r9 = 0) (t := 52) (f := 54) (lv := [(0, .ref 1), (1, .ref 59), (2, .int v2)]) (st := []) (S' := (am_sh, h, hm, g)) rfl hp (fun hc10 hp => ?_) (fun hc10 hp => ?_)
          · refine am_Rn.run am_h9 1 (F' := (53, [(0, .ref 1), (1, .ref 59), (2, .int v2)], [.int 5])) (S' := (am_sh, h, hm, g)) rfl ?_
            cases hp
            exact am_Rn.ret am_h9 rfl
          · refine am_Rn.run am_h9 2 (F' := (56, [(0, .ref 1), (1, .ref 59), (2, .int v2)], [.int v2, .ref 1])) (S' := (am_sh, h, hm, g)) rfl ?_
            obtain ⟨r11, h_r11, hp⟩ := am_bind hp
            refine am_Rn.call am_h9 (mj := 16) (As := [.ref 1, .int v2]) (F' := (59, [(0, .ref 1), (1, .ref 59), (2, .int v2)], [])) (M' := am_m16) (r := some (.int r11)) (S1 := (am_sh, h, hm, g)) rfl am_h16 rfl (ezJ_isHung (by omega) v2 h _ h_r11) ?_
            refine am_Rn.ite am_h9 (c := r11 = 0) (t := 62) (f := 65) (lv := [(0, .ref 1), (1, .ref 59), (2, .int v2)]) (st := []) (S' := (am_sh, h, hm, g)) rfl hp (fun hc12 hp => ?_) (fun hc12 hp => ?_)
            · refine am_Rn.run am_h9 1 (F' := (64, [(0, .ref 1), (1, .ref 59), (2, .int v2)], [.int 6])) (S' := (am_sh, h, hm, g)) rfl ?_
              cases hp
              exact am_Rn.ret am_h9 rfl
            · refine am_Rn.run am_h9 3 (F' := (68, [(0, .ref 1), (1, .ref 59), (2, .int v2)], [.int v2, .ref 59, .ref 1])) (S' := (am_sh, h, hm, g)) rfl ?_
              obtain ⟨r13, h_r13, hp⟩ := am_bind hp
              refine am_Rn.call am_h9 (mj := 17) (As := [.ref 1, .ref 59, .int v2]) (F' := (71, [(0, .ref 1), (1, .ref 59), (2, .int v2)], [])) (M' := am_m17) (r := some (.int r13)) (S1 := (am_sh, h, hm, g)) rfl am_h17 rfl (ezJ_isPassed (by omega) v2 h _ h_r13) ?_
              refine am_Rn.ite am_h9 (c := r13 = 0) (t := 74) (f := 77) (lv := [(0, .ref 1), (1, .ref 59), (2, .int v2)]) (st := []) (S' := (am_sh, h, hm, g)) rfl hp (fun hc14 hp => ?_) (fun hc14 hp => ?_)
              · refine am_Rn.run am_h9 1 (F' := (76, [(0, .ref 1), (1, .ref 59), (2, .int v2)], [.int 7])) (S' := (am_sh, h, hm, g)) rfl ?_
                cases hp
                exact am_Rn.ret am_h9 rfl
              · refine am_Rn.run am_h9 2 (F' := (79, [(0, .ref 1), (1, .ref 59), (2, .int v2)], [.int v2, .ref 1])) (S' := (am_sh, h, hm, g)) rfl ?_
                obtain ⟨r15, h_r15, hp⟩ := am_bind hp
                refine am_Rn.call am_h9 (mj := 18) (As := [.ref 1, .int v2]) (F' := (82, [(0, .ref 1), (1, .ref 59), (2, .int v2)], [])) (M' := am_m18) (r := some (.int r15)) (S1 := (am_sh, h, hm, g)) rfl am_h18 rfl (ezJ_isRested (by omega) v2 h _ h_r15) ?_
                refine am_Rn.ite am_h9 (c := r15 = 0) (t := 89) (f := 85) (lv := [(0, .ref 1), (1, .ref 59), (2, .int v2)]) (st := []) (S' := (am_sh, h, hm, g)) rfl hp (fun hc16 hp => ?_) (fun hc16 hp => ?_)
                · refine am_Rn.run am_h9 1 (F' := (91, [(0, .ref 1), (1, .ref 59), (2, .int v2)], [.int 8])) (S' := (am_sh, h, hm, g)) rfl ?_
                  cases hp
                  exact am_Rn.ret am_h9 rfl
                · refine am_Rn.run am_h9 2 (F' := (91, [(0, .ref 1), (1, .ref 59), (2, .int v2)], [.int 0])) (S' := (am_sh, h, hm, g)) rfl ?_
                  cases hp
                  exact am_Rn.ret am_h9 rfl
        · refine am_Rn.run am_h9 1 (F' := (41, [(0, .ref 1), (1, .ref 59), (2, .int v2)], [.int 4])) (S' := (am_sh, h, hm, g)) rfl ?_
          cases hp
          exact am_Rn.ret am_h9 rfl
/-- SixHands.judge(I)I [0] -/
def zH_judge_L28 : Nat → Int32 → Int32 → (Nat → Nat → Int32) → Option (Int32 × (Nat → Nat → Int32))
  | 0, _, _, _ => none
  | n + 1, v1, v2, h => if v2 < (h 1 13) then ((zJ_why v2 h).bind fun r6 => if r6 = 0 then (zH_judge_L28 n v1 (v2 + 1) h) else (if v1 = 0 then (some ((v2, h))) else (some ((r6, h))))) else (if v1 = 0 then (some (((-1), h))) else (some ((0, h))))
set_option maxRecDepth 20000 in
theorem ezH_judge_L28 {d : Nat} (hd : 6 ≤ d) (R : Int32 × (Nat → Nat → Int32)) : ∀ (n : Nat) (v1 : Int32) (v2 : Int32) (h : (Nat → Nat → Int32)), zH_judge_L28 n v1 v2 h = some R → am_Rn 83 Xs am_P d 121 (28, [(0, .ref 0), (1, .int v1), (2, .int v2)], []) (am_sh, h, hm, g) (some (.int R.1), (am_sh, R.2, hm, g))
  | 0, _, _, _, hp => by cases hp
  | n + 1, v1, v2, h, hp => by
    obtain ⟨d, rfl⟩ : ∃ k, d = k + 1 := ⟨d - 1, by omega⟩
    unfold zH_judge_L28 at hp
    refine am_Rn.run am_h121 4 (F' := (36, [(0, .ref 0), (1, .int v1), (2, .int v2)], [.int (h 1 13), .int v2])) (S' := (am_sh, h, hm, g)) rfl ?_
    refine am_Rn.ite am_h121 (c := v2 < (h 1 13)) (t := 39) (f := 72) (lv := [(0, .ref 0), (1, .int v1), (2, .int v2)]) (st := []) (S' := (am_sh, h, hm, g)) rfl hp (fun hc5 hp => ?_) (fun hc5 hp => ?_)
    · refine am_Rn.run am_h121 5 (F' := (48, [(0, .ref 0), (1, .int v1), (2, .int v2)], [.int v2, .ref 59, .ref 1])) (S' := (am_sh, h, hm, g)) rfl ?_
      obtain ⟨r6, h_r6, hp⟩ := am_bind hp
      refine am_Rn.call am_h121 (mj := 9) (As := [.ref 1, .ref 59, .int v2]) (F' := (51, [(0, .ref 0), (1, .int v1), (2, .int v2)], [])) (M' := am_m9) (r := some (.int r6)) (S1 := (am_sh, h, hm, g)) rfl am_h9 rfl (ezJ_why (by omega) v2 h _ h_r6) ?_
      refine am_Rn.run am_h121 2 (F' := (53, [(3, .int r6), (0, .ref 0), (1, .int v1), (2, .int v2)], [.int r6])) (S' := (am_sh, h, hm, g)) rfl ?_
      refine am_Rn.ite am_h121 (c := r6 = 0) (t := 66) (f := 56) (lv := [(3, .int r6), (0, .ref 0), (1, .int v1), (2, .int v2)]) (st := []) (S' := (am_sh, h, hm, g)) rfl hp (fun hc7 hp => ?_) (fun hc7 hp => ?_)
      · refine am_Rn.run am_h121 2 (F' := (28, [(2, .int (v2 + 1)), (3, .int r6), (0, .ref 0), (1, .int v1)], [])) (S' := (am_sh, h, hm, g)) rfl ?_
        refine am_Rn.sub [2, 3, 0] rfl rfl ?_
        exact ezH_judge_L28 hd R n v1 (v2 + 1) h hp
      · refine am_Rn.run am_h121 1 (F' := (57, [(3, .int r6), (0, .ref 0), (1, .int v1), (2, .int v2)], [.int v1])) (S' := (am_sh, h, hm, g)) rfl ?_
        refine am_Rn.ite am_h121 (c := v1 = 0) (t := 60) (f := 64) (lv := [(3, .int r6), (0, .ref 0), (1, .int v1), (2, .int v2)]) (st := []) (S' := (am_sh, h, hm, g)) rfl hp (fun hc8 hp => ?_) (fun hc8 hp => ?_)
        · refine am_Rn.run am_h121 2 (F' := (65, [(3, .int r6), (0, .ref 0), (1, .int v1), (2, .int v2)], [.int v2])) (S' := (am_sh, h, hm, g)) rfl ?_
          cases hp
          exact am_Rn.ret am_h121 rfl
        · refine am_Rn.run am_h121 1 (F' := (65, [(3, .int r6), (0, .ref 0), (1, .int v1), (2, .int v2)], [.int r6])) (S' := (am_sh, h, hm, g)) rfl ?_
          cases hp
          exact am_Rn.ret am_h121 rfl
    · refine am_Rn.run am_h121 1 (F' := (73, [(0, .ref 0), (1, .int v1), (2, .int v2)], [.int v1])) (S' := (am_sh, h, hm, g)) rfl ?_
      refine am_Rn.ite am_h121 (c := v1 = 0) (t := 76) (f := 80) (lv := [(0, .ref 0), (1, .int v1), (2, .int v2)]) (st := []) (S' := (am_sh, h, hm, g)) rfl hp (fun hc9 hp => ?_) (fun hc9 hp => ?_)
      · refine am_Rn.run am_h121 2 (F' := (81, [(0, .ref 0), (1, .int v1), (2, .int v2)], [.int (-1)])) (S' := (am_sh, h, hm, g)) rfl ?_
        cases hp
        exact am_Rn.ret am_h121 rfl
      · refine am_Rn.run am_h121 1 (F' := (81, [(0, .ref 0), (1, .int v1), (2, .int v2)], [.int 0])) (S' := (am_sh, h, hm, g)) rfl ?_
        cases hp
        exact am_Rn.ret am_h121 rfl
def zH_judge (v1 : Int32) (h : (Nat → Nat → Int32)) : Option (Int32 × (Nat → Nat → Int32)) := if v1 < 0 then (some (((-1), h))) else (if 1 < v1 then (some (((-1), h))) else ((zH_ruling h).bind fun r3 => (zL_learn r3 h).bind fun r4 => zH_judge_L28 am_N v1 0 r4))
set_option maxRecDepth 20000 in
theorem ezH_judge {d : Nat} (hd : 6 ≤ d) (v1 : Int32) (h : (Nat → Nat → Int32)) (R : Int32 × (Nat → Nat → Int32)) (hp : zH_judge v1 h = some R) : am_Ev 83 Xs am_P d 121 [.ref 0, .int v1] (am_sh, h, hm, g) (some (.int R.1), (am_sh, R.2, hm, g)) := by
  obtain ⟨d, rfl⟩ : ∃ k, d = k + 1 := ⟨d - 1, by omega⟩
  unfold zH_judge at hp
  show am_Rn 83 Xs am_P _ 121 (0, [(0, .ref 0), (1, .int v1)], []) _ _
  refine am_Rn.run am_h121 1 (F' := (1, [(0, .ref 0), (1, .int v1)], [.int v1])) (S' := (am_sh, h, hm, g)) rfl ?_
  refine am_Rn.ite am_h121 (c := v1 < 0) (t := 9) (f := 4) (lv := [(0, .ref 0), (1, .int v1)]) (st := []) (S' := (am_sh, h, hm, g)) rfl hp (fun hc1 hp => ?_) (fun hc1 hp => ?_)
  · refine am_Rn.run am_h121 1 (F' := (10, [(0, .ref 0), (1, .int v1)], [.int (-1)])) (S' := (am_sh, h, hm, g)) rfl ?_
    cases hp
    exact am_Rn.ret am_h121 rfl
  · refine am_Rn.run am_h121 2 (F' := (6, [(0, .ref 0), (1, .int v1)], [.int 1, .int v1])) (S' := (am_sh, h, hm, g)) rfl ?_
    refine am_Rn.ite am_h121 (c := 1 < v1) (t := 9) (f := 11) (lv := [(0, .ref 0), (1, .int v1)]) (st := []) (S' := (am_sh, h, hm, g)) rfl hp (fun hc2 hp => ?_) (fun hc2 hp => ?_)
    · refine am_Rn.run am_h121 1 (F' := (10, [(0, .ref 0), (1, .int v1)], [.int (-1)])) (S' := (am_sh, h, hm, g)) rfl ?_
      cases hp
      exact am_Rn.ret am_h121 rfl
    · refine am_Rn.run am_h121 5 (F' := (20, [(0, .ref 0), (1, .int v1)], [.ref 0, .ref 1, .ref 59])) (S' := (am_sh, h, hm, g)) rfl ?_
      obtain ⟨r3, h_r3, hp⟩ := am_bind hp
      refine am_Rn.call am_h121 (mj := 140) (As := [.ref 0]) (F' := (23, [(0, .ref 0), (1, .int v1)], [.ref 1, .ref 59])) (M' := am_m140) (r := some (.ref r3)) (S1 := (am_sh, h, hm, g)) rfl am_h140 rfl (ezH_ruling (by omega) h _ h_r3) ?_
      have hk_r3 := zH_ruling_k h_r3
      obtain ⟨r4, h_r4, hp⟩ := am_bind hp
      refine am_Rn.call am_h121 (mj := 23) (As := [.ref 59, .ref 1, .ref r3]) (F' := (26, [(0, .ref 0), (1, .int v1)], [])) (M' := am_m23) (r := none) (S1 := (am_sh, r4, hm, g)) (by rcases hk_r3 with rfl | rfl | rfl | rfl | rfl <;> rfl) am_h23 rfl (ezL_learn (by omega) r3 h _ hk_r3 h_r4) ?_
      refine am_Rn.run am_h121 2 (F' := (28, [(2, .int 0), (0, .ref 0), (1, .int v1)], [])) (S' := (am_sh, r4, hm, g)) (by rcases hk_r3 with rfl | rfl | rfl | rfl | rfl <;> rfl) ?_
      refine am_Rn.sub [1, 2, 0] rfl rfl ?_
      exact ezH_judge_L28 hd R am_N v1 0 r4 hp
/-- SixHands.swaps()I [0] -/
def zH_swaps_L17 (k4 : Int32 → Int32 → (Nat → Nat → Int32) → Option (Int32)) : Nat → Int32 → Int32 → Int32 → (Nat → Nat → Int32) → Option (Int32)
  | 0, _, _, _, _ => none
  | n + 1, v1, v2, v3, h => if v3 < (h 1 4) then ((zG_isSwapped v2 v3 h).bind fun r3 => if r3 = 0 then (zH_swaps_L17 k4 n v1 v2 (v3 + 1) h) else (zH_swaps_L17 k4 n (v1 + 1) v2 (v3 + 1) h)) else (k4 v1 (v2 + 1) h)
set_option maxRecDepth 20000 in
theorem ezH_swaps_L17 {d : Nat} (hd : 3 ≤ d) (R : Int32) (k4 : Int32 → Int32 → (Nat → Nat → Int32) → Option (Int32)) (hk4 : ∀ (v1 : Int32) (v2 : Int32) (h : (Nat → Nat → Int32)), k4 v1 v2 h = some R → am_Rn 83 Xs am_P d 122 (4, [(0, .ref 0), (1, .int v1), (2, .int v2)], []) (am_sh, h, hm, g) (some (.int R), (am_sh, h, hm, g))) : ∀ (n : Nat) (v1 : Int32) (v2 : Int32) (v3 : Int32) (h : (Nat → Nat → Int32)), zH_swaps_L17 k4 n v1 v2 v3 h = some R → am_Rn 83 Xs am_P d 122 (17, [(0, .ref 0), (1, .int v1), (2, .int v2), (3, .int v3)], []) (am_sh, h, hm, g) (some (.int R), (am_sh, h, hm, g))
  | 0, _, _, _, _, hp => by cases hp
  | n + 1, v1, v2, v3, h, hp => by
    obtain ⟨d, rfl⟩ : ∃ k, d = k + 1 := ⟨d - 1, by omega⟩
    unfold zH_swaps_L17 at hp
    refine am_Rn.run am_h122 4 (F' := (25, [(0, .ref 0), (1, .int v1), (2, .int v2), (3, .int v3)], [.int (h 1 4), .int v3])) (S' := (am_sh, h, hm, g)) rfl ?_
    refine am_Rn.ite am_h122 (c := v3 < (h 1 4)) (t := 28) (f := 49) (lv := [(0, .ref 0), (1, .int v1), (2, .int v2), (3, .int v3)]) (st := []) (S' := (am_sh, h, hm, g)) rfl hp (fun hc2 hp => ?_) (fun hc2 hp => ?_)
    · refine am_Rn.run am_h122 4 (F' := (34, [(0, .ref 0), (1, .int v1), (2, .int v2), (3, .int v3)], [.int v3, .int v2, .ref 1])) (S' := (am_sh, h, hm, g)) rfl ?_
      obtain ⟨r3, h_r3, hp⟩ := am_bind hp
      refine am_Rn.call am_h122 (mj := 87) (As := [.ref 1, .int v2, .int v3]) (F' := (37, [(0, .ref 0), (1, .int v1), (2, .int v2), (3, .int v3)], [])) (M' := am_m87) (r := some (.int r3)) (S1 := (am_sh, h, hm, g)) rfl am_h87 rfl (ezG_isSwapped (by omega) v2 v3 h _ h_r3) ?_
      refine am_Rn.ite am_h122 (c := r3 = 0) (t := 43) (f := 40) (lv := [(0, .ref 0), (1, .int v1), (2, .int v2), (3, .int v3)]) (st := []) (S' := (am_sh, h, hm, g)) rfl hp (fun hc4 hp => ?_) (fun hc4 hp => ?_)
      · refine am_Rn.run am_h122 2 (F' := (17, [(3, .int (v3 + 1)), (0, .ref 0), (1, .int v1), (2, .int v2)], [])) (S' := (am_sh, h, hm, g)) rfl ?_
        refine am_Rn.sub [1, 2, 3, 0] rfl rfl ?_
        exact ezH_swaps_L17 hd R k4 hk4 n v1 v2 (v3 + 1) h hp
      · refine am_Rn.run am_h122 3 (F' := (17, [(3, .int (v3 + 1)), (1, .int (v1 + 1)), (0, .ref 0), (2, .int v2)], [])) (S' := (am_sh, h, hm, g)) rfl ?_
        refine am_Rn.sub [2, 1, 3, 0] rfl rfl ?_
        exact ezH_swaps_L17 hd R k4 hk4 n (v1 + 1) v2 (v3 + 1) h hp
    · refine am_Rn.run am_h122 2 (F' := (4, [(2, .int (v2 + 1)), (0, .ref 0), (1, .int v1), (3, .int v3)], [])) (S' := (am_sh, h, hm, g)) rfl ?_
      refine am_Rn.sub [1, 2, 0] rfl rfl ?_
      exact hk4 v1 (v2 + 1) h hp
def zH_swaps_L4 : Nat → Int32 → Int32 → (Nat → Nat → Int32) → Option (Int32)
  | 0, _, _, _ => none
  | n + 1, v1, v2, h => if v2 < (h 1 13) then (zH_swaps_L17 (fun v1 v2 h => zH_swaps_L4 n v1 v2 h) am_N v1 v2 0 h) else (some v1)
set_option maxRecDepth 20000 in
theorem ezH_swaps_L4 {d : Nat} (hd : 3 ≤ d) (R : Int32) : ∀ (n : Nat) (v1 : Int32) (v2 : Int32) (h : (Nat → Nat → Int32)), zH_swaps_L4 n v1 v2 h = some R → am_Rn 83 Xs am_P d 122 (4, [(0, .ref 0), (1, .int v1), (2, .int v2)], []) (am_sh, h, hm, g) (some (.int R), (am_sh, h, hm, g))
  | 0, _, _, _, hp => by cases hp
  | n + 1, v1, v2, h, hp => by
    obtain ⟨d, rfl⟩ : ∃ k, d = k + 1 := ⟨d - 1, by omega⟩
    unfold zH_swaps_L4 at hp
    refine am_Rn.run am_h122 4 (F' := (12, [(0, .ref 0), (1, .int v1), (2, .int v2)], [.int (h 1 13), .int v2])) (S' := (am_sh, h, hm, g)) rfl ?_
    refine am_Rn.ite am_h122 (c := v2 < (h 1 13)) (t := 15) (f := 55) (lv := [(0, .ref 0), (1, .int v1), (2, .int v2)]) (st := []) (S' := (am_sh, h, hm, g)) rfl hp (fun hc1 hp => ?_) (fun hc1 hp => ?_)
    · refine am_Rn.run am_h122 2 (F' := (17, [(3, .int 0), (0, .ref 0), (1, .int v1), (2, .int v2)], [])) (S' := (am_sh, h, hm, g)) rfl ?_
      refine am_Rn.sub [1, 2, 3, 0] rfl rfl ?_
      exact ezH_swaps_L17 hd R (fun v1 v2 h => zH_swaps_L4 n v1 v2 h) (fun v1 v2 h hp => ezH_swaps_L4 hd R n v1 v2 h hp) am_N v1 v2 0 h hp
    · refine am_Rn.run am_h122 1 (F' := (56, [(0, .ref 0), (1, .int v1), (2, .int v2)], [.int v1])) (S' := (am_sh, h, hm, g)) rfl ?_
      cases hp
      exact am_Rn.ret am_h122 rfl
def zH_swaps (h : (Nat → Nat → Int32)) : Option (Int32) := zH_swaps_L4 am_N 0 1 h
set_option maxRecDepth 20000 in
theorem ezH_swaps {d : Nat} (hd : 3 ≤ d) (h : (Nat → Nat → Int32)) (R : Int32) (hp : zH_swaps h = some R) : am_Ev 83 Xs am_P d 122 [.ref 0] (am_sh, h, hm, g) (some (.int R), (am_sh, h, hm, g)) := by
  obtain ⟨d, rfl⟩ : ∃ k, d = k + 1 := ⟨d - 1, by omega⟩
  unfold zH_swaps at hp
  show am_Rn 83 Xs am_P _ 122 (0, [(0, .ref 0)], []) _ _
  refine am_Rn.run am_h122 4 (F' := (4, [(2, .int 1), (1, .int 0), (0, .ref 0)], [])) (S' := (am_sh, h, hm, g)) rfl ?_
  refine am_Rn.sub [2, 1, 0] rfl rfl ?_
  exact ezH_swaps_L4 hd R am_N 0 1 h hp
/-- SixHands.longest(I)I [0] -/
def zH_longest_J59 (k24 : Int32 → Int32 → Int32 → Int32 → (Nat → Nat → Int32) → Option (Int32)) (v1 : Int32) (v2 : Int32) (v4 : Int32) (s0 : Int32) (h : (Nat → Nat → Int32)) : Option (Int32) := am_b (zD_max v2 s0) fun r7 => k24 v1 r7 s0 (v4 + 1) h
set_option maxRecDepth 20000 in
theorem ezH_longest_J59 {d : Nat} (hd : 1 ≤ d) (R : Int32) (k24 : Int32 → Int32 → Int32 → Int32 → (Nat → Nat → Int32) → Option (Int32)) (hk24 : ∀ (v1 : Int32) (v2 : Int32) (v3 : Int32) (v4 : Int32) (h : (Nat → Nat → Int32)), k24 v1 v2 v3 v4 h = some R → am_Rn 83 Xs am_P d 123 (24, [(0, .ref 0), (1, .int v1), (2, .int v2), (3, .int v3), (4, .int v4)], []) (am_sh, h, hm, g) (some (.int R), (am_sh, h, hm, g))) (v1 : Int32) (v2 : Int32) (v4 : Int32) (s0 : Int32) (h : (Nat → Nat → Int32)) (hp : zH_longest_J59 k24 v1 v2 v4 s0 h = some R) : am_Rn 83 Xs am_P d 123 (59, [(0, .ref 0), (1, .int v1), (2, .int v2), (4, .int v4)], [.int s0]) (am_sh, h, hm, g) (some (.int R), (am_sh, h, hm, g)) := by
  obtain ⟨d, rfl⟩ : ∃ k, d = k + 1 := ⟨d - 1, by omega⟩
  unfold zH_longest_J59 at hp
  refine am_Rn.run am_h123 3 (F' := (62, [(3, .int s0), (0, .ref 0), (1, .int v1), (2, .int v2), (4, .int v4)], [.int s0, .int v2])) (S' := (am_sh, h, hm, g)) rfl ?_
  obtain ⟨r7, h_r7, hp⟩ := am_b_e hp
  refine am_Rn.call am_h123 (mj := 2) (As := [.int v2, .int s0]) (F' := (65, [(3, .int s0), (0, .ref 0), (1, .int v1), (2, .int v2), (4, .int v4)], [])) (M' := am_m2) (r := some (.int r7)) (S1 := (am_sh, h, hm, g)) rfl am_h2 rfl (by subst h_r7; exact (ezD_max (by omega) v2 s0)) ?_
  refine am_Rn.run am_h123 3 (F' := (24, [(4, .int (v4 + 1)), (2, .int r7), (3, .int s0), (0, .ref 0), (1, .int v1)], [])) (S' := (am_sh, h, hm, g)) rfl ?_
  refine am_Rn.sub [3, 4, 1, 2, 0] rfl rfl ?_
  exact hk24 v1 r7 s0 (v4 + 1) h hp
def zH_longest_L24 : Nat → Int32 → Int32 → Int32 → Int32 → (Nat → Nat → Int32) → Option (Int32)
  | 0, _, _, _, _, _ => none
  | n + 1, v1, v2, v3, v4, h => if v4 < (h 1 13) then ((zG_busyHands v4 h).bind fun r5 => if ((r5 >>> (v1 &&& 31)) &&& 1) = 0 then (zH_longest_J59 (fun v1 v2 v3 v4 h => zH_longest_L24 n v1 v2 v3 v4 h) v1 v2 v4 0 h) else (zH_longest_J59 (fun v1 v2 v3 v4 h => zH_longest_L24 n v1 v2 v3 v4 h) v1 v2 v4 (v3 + 1) h)) else (some v2)
set_option maxRecDepth 20000 in
theorem ezH_longest_L24 {d : Nat} (hd : 1 ≤ d) (R : Int32) : ∀ (n : Nat) (v1 : Int32) (v2 : Int32) (v3 : Int32) (v4 : Int32) (h : (Nat → Nat → Int32)), zH_longest_L24 n v1 v2 v3 v4 h = some R → am_Rn 83 Xs am_P d 123 (24, [(0, .ref 0), (1, .int v1), (2, .int v2), (3, .int v3), (4, .int v4)], []) (am_sh, h, hm, g) (some (.int R), (am_sh, h, hm, g))
  | 0, _, _, _, _, _, hp => by cases hp
  | n + 1, v1, v2, v3, v4, h, hp => by
    obtain ⟨d, rfl⟩ : ∃ k, d = k + 1 := ⟨d - 1, by omega⟩
    unfold zH_longest_L24 at hp
    refine am_Rn.run am_h123 4 (F' := (33, [(0, .ref 0), (1, .int v1), (2, .int v2), (3, .int v3), (4, .int v4)], [.int (h 1 13), .int v4])) (S' := (am_sh, h, hm, g)) rfl ?_
    refine am_Rn.ite am_h123 (c := v4 < (h 1 13)) (t := 36) (f := 72) (lv := [(0, .ref 0), (1, .int v1), (2, .int v2), (3, .int v3), (4, .int v4)]) (st := []) (S' := (am_sh, h, hm, g)) rfl hp (fun hc4 hp => ?_) (fun hc4 hp => ?_)
    · refine am_Rn.run am_h123 3 (F' := (42, [(0, .ref 0), (1, .int v1), (2, .int v2), (3, .int v3), (4, .int v4)], [.int v4, .ref 1])) (S' := (am_sh, h, hm, g)) rfl ?_
      obtain ⟨r5, h_r5, hp⟩ := am_bind hp
      refine am_Rn.call am_h123 (mj := 88) (As := [.ref 1, .int v4]) (F' := (45, [(0, .ref 0), (1, .int v1), (2, .int v2), (3, .int v3), (4, .int v4)], [])) (M' := am_m88) (r := some (.int r5)) (S1 := (am_sh, h, hm, g)) rfl am_h88 rfl (ezG_busyHands (by omega) v4 h _ h_r5) ?_
      refine am_Rn.run am_h123 4 (F' := (49, [(0, .ref 0), (1, .int v1), (2, .int v2), (3, .int v3), (4, .int v4)], [.int ((r5 >>> (v1 &&& 31)) &&& 1)])) (S' := (am_sh, h, hm, g)) rfl ?_
      refine am_Rn.ite am_h123 (c := ((r5 >>> (v1 &&& 31)) &&& 1) = 0) (t := 52) (f := 56) (lv := [(0, .ref 0), (1, .int v1), (2, .int v2), (3, .int v3), (4, .int v4)]) (st := []) (S' := (am_sh, h, hm, g)) rfl hp (fun hc6 hp => ?_) (fun hc6 hp => ?_)
      · refine am_Rn.run am_h123 2 (F' := (59, [(0, .ref 0), (1, .int v1), (2, .int v2), (3, .int v3), (4, .int v4)], [.int 0])) (S' := (am_sh, h, hm, g)) rfl ?_
        refine am_Rn.sub [0, 1, 2, 4] rfl rfl ?_
        exact ezH_longest_J59 hd R (fun v1 v2 v3 v4 h => zH_longest_L24 n v1 v2 v3 v4 h) (fun v1 v2 v3 v4 h hp => ezH_longest_L24 hd R n v1 v2 v3 v4 h hp) v1 v2 v4 0 h hp
      · refine am_Rn.run am_h123 3 (F' := (59, [(0, .ref 0), (1, .int v1), (2, .int v2), (3, .int v3), (4, .int v4)], [.int (v3 + 1)])) (S' := (am_sh, h, hm, g)) rfl ?_
        refine am_Rn.sub [0, 1, 2, 4] rfl rfl ?_
        exact ezH_longest_J59 hd R (fun v1 v2 v3 v4 h => zH_longest_L24 n v1 v2 v3 v4 h) (fun v1 v2 v3 v4 h hp => ezH_longest_L24 hd R n v1 v2 v3 v4 h hp) v1 v2 v4 (v3 + 1) h hp
    · refine am_Rn.run am_h123 1 (F' := (73, [(0, .ref 0), (1, .int v1), (2, .int v2), (3, .int v3), (4, .int v4)], [.int v2])) (S' := (am_sh, h, hm, g)) rfl ?_
      cases hp
      exact am_Rn.ret am_h123 rfl
def zH_longest (v1 : Int32) (h : (Nat → Nat → Int32)) : Option (Int32) := if v1 < 0 then (some (-1)) else (am_b (zG_hands h) fun r2 => if v1 < r2 then (zH_longest_L24 am_N v1 0 0 0 h) else (some (-1)))
set_option maxRecDepth 20000 in
theorem ezH_longest {d : Nat} (hd : 1 ≤ d) (v1 : Int32) (h : (Nat → Nat → Int32)) (R : Int32) (hp : zH_longest v1 h = some R) : am_Ev 83 Xs am_P d 123 [.ref 0, .int v1] (am_sh, h, hm, g) (some (.int R), (am_sh, h, hm, g)) := by
  obtain ⟨d, rfl⟩ : ∃ k, d = k + 1 := ⟨d - 1, by omega⟩
  unfold zH_longest at hp
  show am_Rn 83 Xs am_P _ 123 (0, [(0, .ref 0), (1, .int v1)], []) _ _
  refine am_Rn.run am_h123 1 (F' := (1, [(0, .ref 0), (1, .int v1)], [.int v1])) (S' := (am_sh, h, hm, g)) rfl ?_
  refine am_Rn.ite am_h123 (c := v1 < 0) (t := 15) (f := 4) (lv := [(0, .ref 0), (1, .int v1)]) (st := []) (S' := (am_sh, h, hm, g)) rfl hp (fun hc1 hp => ?_) (fun hc1 hp => ?_)
  · refine am_Rn.run am_h123 1 (F' := (16, [(0, .ref 0), (1, .int v1)], [.int (-1)])) (S' := (am_sh, h, hm, g)) rfl ?_
    cases hp
    exact am_Rn.ret am_h123 rfl
  · refine am_Rn.run am_h123 3 (F' := (9, [(0, .ref 0), (1, .int v1)], [.ref 1, .int v1])) (S' := (am_sh, h, hm, g)) rfl ?_
    obtain ⟨r2, h_r2, hp⟩ := am_b_e hp
    refine am_Rn.call am_h123 (mj := 82) (As := [.ref 1]) (F' := (12, [(0, .ref 0), (1, .int v1)], [.int v1])) (M' := am_m82) (r := some (.int r2)) (S1 := (am_sh, h, hm, g)) rfl am_h82 rfl (by subst h_r2; exact (ezG_hands (by omega) h)) ?_
    refine am_Rn.ite am_h123 (c := v1 < r2) (t := 17) (f := 15) (lv := [(0, .ref 0), (1, .int v1)]) (st := []) (S' := (am_sh, h, hm, g)) rfl hp (fun hc3 hp => ?_) (fun hc3 hp => ?_)
    · refine am_Rn.run am_h123 6 (F' := (24, [(4, .int 0), (3, .int 0), (2, .int 0), (0, .ref 0), (1, .int v1)], [])) (S' := (am_sh, h, hm, g)) rfl ?_
      refine am_Rn.sub [3, 4, 2, 1, 0] rfl rfl ?_
      exact ezH_longest_L24 hd R am_N v1 0 0 0 h hp
    · refine am_Rn.run am_h123 1 (F' := (16, [(0, .ref 0), (1, .int v1)], [.int (-1)])) (S' := (am_sh, h, hm, g)) rfl ?_
      cases hp
      exact am_Rn.ret am_h123 rfl
/-- SixHands.everybody()I [0] -/
def zH_everybody (h : (Nat → Nat → Int32)) : Int32 := ((1 : Int32) <<< ((h 1 1) &&& 31)) - 1
set_option maxRecDepth 20000 in
theorem ezH_everybody {d : Nat} (hd : 0 ≤ d) (h : (Nat → Nat → Int32)) : am_Ev 83 Xs am_P d 139 [.ref 0] (am_sh, h, hm, g) (some (.int ((zH_everybody h))), (am_sh, h, hm, g)) := by
  obtain ⟨R, hp⟩ : ∃ R, zH_everybody h = R := ⟨_, rfl⟩
  rw [hp]
  unfold zH_everybody at hp
  show am_Rn 83 Xs am_P _ 139 (0, [(0, .ref 0)], []) _ _
  refine am_Rn.run am_h139 7 (F' := (11, [(0, .ref 0)], [.int (((1 : Int32) <<< ((h 1 1) &&& 31)) - 1)])) (S' := (am_sh, h, hm, g)) rfl ?_
  subst hp
  exact am_Rn.ret am_h139 rfl
end
