section
variable {Xs : Nat × (Nat → Int32)} {hx hm : Nat → Nat → Int32} {g : Nat → Nat → Int64} {S : am_S}
/-- SixHands$Search.isCrossing(III)Z [65] -/
def zS_isCrossing_J74 (k11 : Int32 → Int32 → Int32 → Int32 → (Nat → Nat → Int32) → Option (Int32)) (v2 : Int32) (v3 : Int32) (v4 : Int32) (v5 : Int32) (s0 : Int32) (h : (Nat → Nat → Int32)) : Option (Int32) := if s0 = 0 then (k11 v2 v3 v4 (v5 + 1) h) else (some 1)
set_option maxRecDepth 20000 in
theorem ezS_isCrossing_J74 {d : Nat} (hd : 0 ≤ d) (R : Int32) (k11 : Int32 → Int32 → Int32 → Int32 → (Nat → Nat → Int32) → Option (Int32)) (hk11 : ∀ (v2 : Int32) (v3 : Int32) (v4 : Int32) (v5 : Int32) (h : (Nat → Nat → Int32)), k11 v2 v3 v4 v5 h = some R → am_Rn 83 Xs am_P d 56 (11, [(0, .ref 65), (2, .int v2), (3, .int v3), (4, .int v4), (5, .int v5)], []) (am_sh, h, hm, g) (some (.int R), (am_sh, h, hm, g))) (v2 : Int32) (v3 : Int32) (v4 : Int32) (v5 : Int32) (s0 : Int32) (h : (Nat → Nat → Int32)) (hp : zS_isCrossing_J74 k11 v2 v3 v4 v5 s0 h = some R) : am_Rn 83 Xs am_P d 56 (74, [(0, .ref 65), (2, .int v2), (3, .int v3), (4, .int v4), (5, .int v5)], [.int s0]) (am_sh, h, hm, g) (some (.int R), (am_sh, h, hm, g)) := by
  unfold zS_isCrossing_J74 at hp
  refine am_Rn.run am_h56 2 (F' := (78, [(6, .int s0), (0, .ref 65), (2, .int v2), (3, .int v3), (4, .int v4), (5, .int v5)], [.int s0])) (S' := (am_sh, h, hm, g)) rfl ?_
  refine am_Rn.ite am_h56 (c := s0 = 0) (t := 83) (f := 81) (lv := [(6, .int s0), (0, .ref 65), (2, .int v2), (3, .int v3), (4, .int v4), (5, .int v5)]) (st := []) (S' := (am_sh, h, hm, g)) rfl hp (fun hc9 hp => ?_) (fun hc9 hp => ?_)
  · refine am_Rn.run am_h56 2 (F' := (11, [(5, .int (v5 + 1)), (6, .int s0), (0, .ref 65), (2, .int v2), (3, .int v3), (4, .int v4)], [])) (S' := (am_sh, h, hm, g)) rfl ?_
    refine am_Rn.sub [2, 3, 4, 5, 0] rfl rfl ?_
    exact hk11 v2 v3 v4 (v5 + 1) h hp
  · refine am_Rn.run am_h56 1 (F' := (82, [(6, .int s0), (0, .ref 65), (2, .int v2), (3, .int v3), (4, .int v4), (5, .int v5)], [.int 1])) (S' := (am_sh, h, hm, g)) rfl ?_
    cases hp
    exact am_Rn.ret am_h56 rfl
def zS_isCrossing_L11 : Nat → Int32 → Int32 → Int32 → Int32 → (Nat → Nat → Int32) → Option (Int32)
  | 0, _, _, _, _, _ => none
  | n + 1, v2, v3, v4, v5, h => if v5 < 6 then (if ((v3 >>> (v5 &&& 31)) &&& 1) = 0 then (zS_isCrossing_L11 n v2 v3 v4 (v5 + 1) h) else (am_ix 6 v5 (if (h 67 (v5.toNatClampNeg)) < v4 then (am_ix 6 v5 (if v2 < (h 75 (v5.toNatClampNeg)) then (zS_isCrossing_J74 (fun v2 v3 v4 v5 h => zS_isCrossing_L11 n v2 v3 v4 v5 h) v2 v3 v4 v5 1 h) else (zS_isCrossing_J74 (fun v2 v3 v4 v5 h => zS_isCrossing_L11 n v2 v3 v4 v5 h) v2 v3 v4 v5 0 h))) else (am_ix 6 v5 (if (h 75 (v5.toNatClampNeg)) < v2 then (zS_isCrossing_J74 (fun v2 v3 v4 v5 h => zS_isCrossing_L11 n v2 v3 v4 v5 h) v2 v3 v4 v5 1 h) else (zS_isCrossing_J74 (fun v2 v3 v4 v5 h => zS_isCrossing_L11 n v2 v3 v4 v5 h) v2 v3 v4 v5 0 h)))))) else (some 0)
set_option maxRecDepth 20000 in
theorem ezS_isCrossing_L11 {d : Nat} (hd : 0 ≤ d) (R : Int32) : ∀ (n : Nat) (v2 : Int32) (v3 : Int32) (v4 : Int32) (v5 : Int32) (h : (Nat → Nat → Int32)), zS_isCrossing_L11 n v2 v3 v4 v5 h = some R → am_Rn 83 Xs am_P d 56 (11, [(0, .ref 65), (2, .int v2), (3, .int v3), (4, .int v4), (5, .int v5)], []) (am_sh, h, hm, g) (some (.int R), (am_sh, h, hm, g))
  | 0, _, _, _, _, _, hp => by cases hp
  | n + 1, v2, v3, v4, v5, h, hp => by
    unfold zS_isCrossing_L11 at hp
    refine am_Rn.run am_h56 2 (F' := (15, [(0, .ref 65), (2, .int v2), (3, .int v3), (4, .int v4), (5, .int v5)], [.int 6, .int v5])) (S' := (am_sh, h, hm, g)) rfl ?_
    refine am_Rn.ite am_h56 (c := v5 < 6) (t := 18) (f := 89) (lv := [(0, .ref 65), (2, .int v2), (3, .int v3), (4, .int v4), (5, .int v5)]) (st := []) (S' := (am_sh, h, hm, g)) rfl hp (fun hc3 hp => ?_) (fun hc3 hp => ?_)
    · refine am_Rn.run am_h56 5 (F' := (24, [(0, .ref 65), (2, .int v2), (3, .int v3), (4, .int v4), (5, .int v5)], [.int ((v3 >>> (v5 &&& 31)) &&& 1)])) (S' := (am_sh, h, hm, g)) rfl ?_
      refine am_Rn.ite am_h56 (c := ((v3 >>> (v5 &&& 31)) &&& 1) = 0) (t := 83) (f := 27) (lv := [(0, .ref 65), (2, .int v2), (3, .int v3), (4, .int v4), (5, .int v5)]) (st := []) (S' := (am_sh, h, hm, g)) rfl hp (fun hc4 hp => ?_) (fun hc4 hp => ?_)
      · refine am_Rn.run am_h56 2 (F' := (11, [(5, .int (v5 + 1)), (0, .ref 65), (2, .int v2), (3, .int v3), (4, .int v4)], [])) (S' := (am_sh, h, hm, g)) rfl ?_
        refine am_Rn.sub [1, 2, 3, 4, 0] rfl rfl ?_
        exact ezS_isCrossing_L11 hd R n v2 v3 v4 (v5 + 1) h hp
      · refine am_Rn.run am_h56 3 (F' := (33, [(0, .ref 65), (2, .int v2), (3, .int v3), (4, .int v4), (5, .int v5)], [.int v5, .ref 67])) (S' := (am_sh, h, hm, g)) rfl ?_
        obtain ⟨hn5, hp⟩ := am_ix_e hp
        refine am_Rn.stepG am_h56 (c := v5 < 0 ∨ 6 ≤ v5.toNatClampNeg) (F' := (34, [(0, .ref 65), (2, .int v2), (3, .int v3), (4, .int v4), (5, .int v5)], [.int (h 67 (v5.toNatClampNeg))])) (S' := (am_sh, h, hm, g)) rfl hn5 ?_
        refine am_Rn.run am_h56 1 (F' := (36, [(0, .ref 65), (2, .int v2), (3, .int v3), (4, .int v4), (5, .int v5)], [.int v4, .int (h 67 (v5.toNatClampNeg))])) (S' := (am_sh, h, hm, g)) rfl ?_
        refine am_Rn.ite am_h56 (c := (h 67 (v5.toNatClampNeg)) < v4) (t := 39) (f := 58) (lv := [(0, .ref 65), (2, .int v2), (3, .int v3), (4, .int v4), (5, .int v5)]) (st := []) (S' := (am_sh, h, hm, g)) rfl hp (fun hc6 hp => ?_) (fun hc6 hp => ?_)
        · refine am_Rn.run am_h56 3 (F' := (45, [(0, .ref 65), (2, .int v2), (3, .int v3), (4, .int v4), (5, .int v5)], [.int v5, .ref 75])) (S' := (am_sh, h, hm, g)) rfl ?_
          obtain ⟨hn7, hp⟩ := am_ix_e hp
          refine am_Rn.stepG am_h56 (c := v5 < 0 ∨ 6 ≤ v5.toNatClampNeg) (F' := (46, [(0, .ref 65), (2, .int v2), (3, .int v3), (4, .int v4), (5, .int v5)], [.int (h 75 (v5.toNatClampNeg))])) (S' := (am_sh, h, hm, g)) rfl hn7 ?_
          refine am_Rn.run am_h56 1 (F' := (47, [(0, .ref 65), (2, .int v2), (3, .int v3), (4, .int v4), (5, .int v5)], [.int v2, .int (h 75 (v5.toNatClampNeg))])) (S' := (am_sh, h, hm, g)) rfl ?_
          refine am_Rn.ite am_h56 (c := v2 < (h 75 (v5.toNatClampNeg))) (t := 50) (f := 54) (lv := [(0, .ref 65), (2, .int v2), (3, .int v3), (4, .int v4), (5, .int v5)]) (st := []) (S' := (am_sh, h, hm, g)) rfl hp (fun hc8 hp => ?_) (fun hc8 hp => ?_)
          · refine am_Rn.run am_h56 2 (F' := (74, [(0, .ref 65), (2, .int v2), (3, .int v3), (4, .int v4), (5, .int v5)], [.int 1])) (S' := (am_sh, h, hm, g)) rfl ?_
            exact ezS_isCrossing_J74 hd R (fun v2 v3 v4 v5 h => zS_isCrossing_L11 n v2 v3 v4 v5 h) (fun v2 v3 v4 v5 h hp => ezS_isCrossing_L11 hd R n v2 v3 v4 v5 h hp) v2 v3 v4 v5 1 h hp
          · refine am_Rn.run am_h56 2 (F' := (74, [(0, .ref 65), (2, .int v2), (3, .int v3), (4, .int v4), (5, .int v5)], [.int 0])) (S' := (am_sh, h, hm, g)) rfl ?_
            exact ezS_isCrossing_J74 hd R (fun v2 v3 v4 v5 h => zS_isCrossing_L11 n v2 v3 v4 v5 h) (fun v2 v3 v4 v5 h hp => ezS_isCrossing_L11 hd R n v2 v3 v4 v5 h hp) v2 v3 v4 v5 0 h hp
        · refine am_Rn.run am_h56 3 (F' := (64, [(0, .ref 65), (2, .int v2), (3, .int v3), (4, .int v4), (5, .int v5)], [.int v5, .ref 75])) (S' := (am_sh, h, hm, g)) rfl ?_
          obtain ⟨hn10, hp⟩ := am_ix_e hp
          refine am_Rn.stepG am_h56 (c := v5 < 0 ∨ 6 ≤ v5.toNatClampNeg) (F' := (65, [(0, .ref 65), (2, .int v2), (3, .int v3), (4, .int v4), (5, .int v5)], [.int (h 75 (v5.toNatClampNeg))])) (S' := (am_sh, h, hm, g)) rfl hn10 ?_
          refine am_Rn.run am_h56 1 (F' := (66, [(0, .ref 65), (2, .int v2), (3, .int v3), (4, .int v4), (5, .int v5)], [.int v2, .int (h 75 (v5.toNatClampNeg))])) (S' := (am_sh, h, hm, g)) rfl ?_
          refine am_Rn.ite am_h56 (c := (h 75 (v5.toNatClampNeg)) < v2) (t := 69) (f := 73) (lv := [(0, .ref 65), (2, .int v2), (3, .int v3), (4, .int v4), (5, .int v5)]) (st := []) (S' := (am_sh, h, hm, g)) rfl hp (fun hc11 hp => ?_) (fun hc11 hp => ?_)
          · refine am_Rn.run am_h56 2 (F' := (74, [(0, .ref 65), (2, .int v2), (3, .int v3), (4, .int v4), (5, .int v5)], [.int 1])) (S' := (am_sh, h, hm, g)) rfl ?_
            exact ezS_isCrossing_J74 hd R (fun v2 v3 v4 v5 h => zS_isCrossing_L11 n v2 v3 v4 v5 h) (fun v2 v3 v4 v5 h hp => ezS_isCrossing_L11 hd R n v2 v3 v4 v5 h hp) v2 v3 v4 v5 1 h hp
          · refine am_Rn.run am_h56 1 (F' := (74, [(0, .ref 65), (2, .int v2), (3, .int v3), (4, .int v4), (5, .int v5)], [.int 0])) (S' := (am_sh, h, hm, g)) rfl ?_
            exact ezS_isCrossing_J74 hd R (fun v2 v3 v4 v5 h => zS_isCrossing_L11 n v2 v3 v4 v5 h) (fun v2 v3 v4 v5 h hp => ezS_isCrossing_L11 hd R n v2 v3 v4 v5 h hp) v2 v3 v4 v5 0 h hp
    · refine am_Rn.run am_h56 1 (F' := (90, [(0, .ref 65), (2, .int v2), (3, .int v3), (4, .int v4), (5, .int v5)], [.int 0])) (S' := (am_sh, h, hm, g)) rfl ?_
      cases hp
      exact am_Rn.ret am_h56 rfl
def zS_isCrossing (v1 : Int32) (v2 : Int32) (v3 : Int32) (h : (Nat → Nat → Int32)) : Option (Int32) := am_ix 6 v1 (am_b (h 67 (v1.toNatClampNeg)) fun x2 => zS_isCrossing_L11 am_N v2 v3 x2 0 h)
set_option maxRecDepth 20000 in
theorem ezS_isCrossing {d : Nat} (hd : 0 ≤ d) (v1 : Int32) (v2 : Int32) (v3 : Int32) (h : (Nat → Nat → Int32)) (R : Int32) (hp : zS_isCrossing v1 v2 v3 h = some R) : am_Ev 83 Xs am_P d 56 [.ref 65, .int v1, .int v2, .int v3] (am_sh, h, hm, g) (some (.int R), (am_sh, h, hm, g)) := by
  unfold zS_isCrossing at hp
  show am_Rn 83 Xs am_P _ 56 (0, [(0, .ref 65), (1, .int v1), (2, .int v2), (3, .int v3)], []) _ _
  refine am_Rn.run am_h56 3 (F' := (5, [(0, .ref 65), (1, .int v1), (2, .int v2), (3, .int v3)], [.int v1, .ref 67])) (S' := (am_sh, h, hm, g)) rfl ?_
  obtain ⟨hn1, hp⟩ := am_ix_e hp
  refine am_Rn.stepG am_h56 (c := v1 < 0 ∨ 6 ≤ v1.toNatClampNeg) (F' := (6, [(0, .ref 65), (1, .int v1), (2, .int v2), (3, .int v3)], [.int (h 67 (v1.toNatClampNeg))])) (S' := (am_sh, h, hm, g)) rfl hn1 ?_
  obtain ⟨x2, h_x2, hp⟩ := am_b_e hp
  refine am_Rn.run am_h56 3 (F' := (11, [(5, .int 0), (4, .int x2), (0, .ref 65), (1, .int v1), (2, .int v2), (3, .int v3)], [])) (S' := (am_sh, h, hm, g)) (by subst h_x2; rfl) ?_
  refine am_Rn.sub [2, 4, 5, 1, 0] rfl rfl ?_
  exact ezS_isCrossing_L11 hd R am_N v2 v3 x2 0 h hp
/-- SixHands$Search.putHands(II)V [65] -/
def zS_putHands_L2 : Nat → Int32 → Int32 → Int32 → (Nat → Nat → Int32) → Option ((Nat → Nat → Int32))
  | 0, _, _, _, _ => none
  | n + 1, v1, v2, v3, h => if v3 < 6 then (if ((v1 >>> (v3 &&& 31)) &&& 1) = 0 then (zS_putHands_L2 n v1 v2 (v3 + 1) h) else (am_ix 6 v3 (am_b (va_up h 75 (upd (h 75) (v3.toNatClampNeg) v2)) fun h4 => zS_putHands_L2 n v1 v2 (v3 + 1) h4))) else (some h)
set_option maxRecDepth 20000 in
theorem ezS_putHands_L2 {d : Nat} (hd : 0 ≤ d) (R : (Nat → Nat → Int32)) : ∀ (n : Nat) (v1 : Int32) (v2 : Int32) (v3 : Int32) (h : (Nat → Nat → Int32)), zS_putHands_L2 n v1 v2 v3 h = some R → am_Rn 83 Xs am_P d 57 (2, [(0, .ref 65), (1, .int v1), (2, .int v2), (3, .int v3)], []) (am_sh, h, hm, g) (none, (am_sh, R, hm, g))
  | 0, _, _, _, _, hp => by cases hp
  | n + 1, v1, v2, v3, h, hp => by
    unfold zS_putHands_L2 at hp
    refine am_Rn.run am_h57 2 (F' := (5, [(0, .ref 65), (1, .int v1), (2, .int v2), (3, .int v3)], [.int 6, .int v3])) (S' := (am_sh, h, hm, g)) rfl ?_
    refine am_Rn.ite am_h57 (c := v3 < 6) (t := 8) (f := 29) (lv := [(0, .ref 65), (1, .int v1), (2, .int v2), (3, .int v3)]) (st := []) (S' := (am_sh, h, hm, g)) rfl hp (fun hc1 hp => ?_) (fun hc1 hp => ?_)
    · refine am_Rn.run am_h57 5 (F' := (13, [(0, .ref 65), (1, .int v1), (2, .int v2), (3, .int v3)], [.int ((v1 >>> (v3 &&& 31)) &&& 1)])) (S' := (am_sh, h, hm, g)) rfl ?_
      refine am_Rn.ite am_h57 (c := ((v1 >>> (v3 &&& 31)) &&& 1) = 0) (t := 23) (f := 16) (lv := [(0, .ref 65), (1, .int v1), (2, .int v2), (3, .int v3)]) (st := []) (S' := (am_sh, h, hm, g)) rfl hp (fun hc2 hp => ?_) (fun hc2 hp => ?_)
      · refine am_Rn.run am_h57 2 (F' := (2, [(3, .int (v3 + 1)), (0, .ref 65), (1, .int v1), (2, .int v2)], [])) (S' := (am_sh, h, hm, g)) rfl ?_
        refine am_Rn.sub [1, 2, 3, 0] rfl rfl ?_
        exact ezS_putHands_L2 hd R n v1 v2 (v3 + 1) h hp
      · refine am_Rn.run am_h57 4 (F' := (22, [(0, .ref 65), (1, .int v1), (2, .int v2), (3, .int v3)], [.int v2, .int v3, .ref 75])) (S' := (am_sh, h, hm, g)) rfl ?_
        obtain ⟨hn3, hp⟩ := am_ix_e hp
        obtain ⟨h4, h_h4, hp⟩ := am_b_e hp
        refine am_Rn.stepG am_h57 (c := v3 < 0 ∨ 6 ≤ v3.toNatClampNeg) (F' := (23, [(0, .ref 65), (1, .int v1), (2, .int v2), (3, .int v3)], [])) (S' := (am_sh, h4, hm, g)) (by subst h_h4; rfl) hn3 ?_
        refine am_Rn.run am_h57 2 (F' := (2, [(3, .int (v3 + 1)), (0, .ref 65), (1, .int v1), (2, .int v2)], [])) (S' := (am_sh, h4, hm, g)) rfl ?_
        refine am_Rn.sub [1, 2, 3, 0] rfl rfl ?_
        exact ezS_putHands_L2 hd R n v1 v2 (v3 + 1) h4 hp
    · cases hp
      exact am_Rn.ret am_h57 rfl
def zS_putHands (v1 : Int32) (v2 : Int32) (h : (Nat → Nat → Int32)) : Option ((Nat → Nat → Int32)) := zS_putHands_L2 am_N v1 v2 0 h
set_option maxRecDepth 20000 in
theorem ezS_putHands {d : Nat} (hd : 0 ≤ d) (v1 : Int32) (v2 : Int32) (h : (Nat → Nat → Int32)) (R : (Nat → Nat → Int32)) (hp : zS_putHands v1 v2 h = some R) : am_Ev 83 Xs am_P d 57 [.ref 65, .int v1, .int v2] (am_sh, h, hm, g) (none, (am_sh, R, hm, g)) := by
  unfold zS_putHands at hp
  show am_Rn 83 Xs am_P _ 57 (0, [(0, .ref 65), (1, .int v1), (2, .int v2)], []) _ _
  refine am_Rn.run am_h57 2 (F' := (2, [(3, .int 0), (0, .ref 65), (1, .int v1), (2, .int v2)], [])) (S' := (am_sh, h, hm, g)) rfl ?_
  refine am_Rn.sub [1, 2, 3, 0] rfl rfl ?_
  exact ezS_putHands_L2 hd R am_N v1 v2 0 h hp
/-- SixHands$Search.keep(II)V [65] -/
def zS_keep (v1 : Int32) (v2 : Int32) (h : (Nat → Nat → Int32)) : Option ((Nat → Nat → Int32)) := am_ix 24 v1 (if (h 73 (v1.toNatClampNeg)) < 720 then (am_ix 24 v1 (am_ix 17280 ((v1 * 720) + (h 73 (v1.toNatClampNeg))) (am_b (va_up h 71 (upd (h 71) (((v1 * 720) + (h 73 (v1.toNatClampNeg))).toNatClampNeg) v2)) fun h5 => am_ix 24 v1 (am_ix 24 v1 (am_b (va_up h5 73 (upd (h5 73) (v1.toNatClampNeg) ((h5 73 (v1.toNatClampNeg)) + 1))) fun h8 => some h8))))) else (some h))
set_option maxRecDepth 20000 in
theorem ezS_keep {d : Nat} (hd : 0 ≤ d) (v1 : Int32) (v2 : Int32) (h : (Nat → Nat → Int32)) (R : (Nat → Nat → Int32)) (hp : zS_keep v1 v2 h = some R) : am_Ev 83 Xs am_P d 55 [.ref 65, .int v1, .int v2] (am_sh, h, hm, g) (none, (am_sh, R, hm, g)) := by
  unfold zS_keep at hp
  show am_Rn 83 Xs am_P _ 55 (0, [(0, .ref 65), (1, .int v1), (2, .int v2)], []) _ _
  refine am_Rn.run am_h55 3 (F' := (5, [(0, .ref 65), (1, .int v1), (2, .int v2)], [.int v1, .ref 73])) (S' := (am_sh, h, hm, g)) rfl ?_
  obtain ⟨hn1, hp⟩ := am_ix_e hp
  refine am_Rn.stepG am_h55 (c := v1 < 0 ∨ 24 ≤ v1.toNatClampNeg) (F' := (6, [(0, .ref 65), (1, .int v1), (2, .int v2)], [.int (h 73 (v1.toNatClampNeg))])) (S' := (am_sh, h, hm, g)) rfl hn1 ?_
  refine am_Rn.run am_h55 1 (F' := (9, [(0, .ref 65), (1, .int v1), (2, .int v2)], [.int 720, .int (h 73 (v1.toNatClampNeg))])) (S' := (am_sh, h, hm, g)) rfl ?_
  refine am_Rn.ite am_h55 (c := (h 73 (v1.toNatClampNeg)) < 720) (t := 12) (f := 40) (lv := [(0, .ref 65), (1, .int v1), (2, .int v2)]) (st := []) (S' := (am_sh, h, hm, g)) rfl hp (fun hc2 hp => ?_) (fun hc2 hp => ?_)
  · refine am_Rn.run am_h55 8 (F' := (26, [(0, .ref 65), (1, .int v1), (2, .int v2)], [.int v1, .ref 73, .int (v1 * 720), .ref 71])) (S' := (am_sh, h, hm, g)) rfl ?_
    obtain ⟨hn3, hp⟩ := am_ix_e hp
    refine am_Rn.stepG am_h55 (c := v1 < 0 ∨ 24 ≤ v1.toNatClampNeg) (F' := (27, [(0, .ref 65), (1, .int v1), (2, .int v2)], [.int (h 73 (v1.toNatClampNeg)), .int (v1 * 720), .ref 71])) (S' := (am_sh, h, hm, g)) rfl hn3 ?_
    refine am_Rn.run am_h55 2 (F' := (29, [(0, .ref 65), (1, .int v1), (2, .int v2)], [.int v2, .int ((v1 * 720) + (h 73 (v1.toNatClampNeg))), .ref 71])) (S' := (am_sh, h, hm, g)) rfl ?_
    obtain ⟨hn4, hp⟩ := am_ix_e hp
    obtain ⟨h5, h_h5, hp⟩ := am_b_e hp
    refine am_Rn.stepG am_h55 (c := ((v1 * 720) + (h 73 (v1.toNatClampNeg))) < 0 ∨ 17280 ≤ ((v1 * 720) + (h 73 (v1.toNatClampNeg))).toNatClampNeg) (F' := (30, [(0, .ref 65), (1, .int v1), (2, .int v2)], [])) (S' := (am_sh, h5, hm, g)) (by subst h_h5; rfl) hn4 ?_
    refine am_Rn.run am_h55 4 (F' := (36, [(0, .ref 65), (1, .int v1), (2, .int v2)], [.int v1, .ref 73, .int v1, .ref 73])) (S' := (am_sh, h5, hm, g)) rfl ?_
    obtain ⟨hn6, hp⟩ := am_ix_e hp
    refine am_Rn.stepG am_h55 (c := v1 < 0 ∨ 24 ≤ v1.toNatClampNeg) (F' := (37, [(0, .ref 65), (1, .int v1), (2, .int v2)], [.int (h5 73 (v1.toNatClampNeg)), .int v1, .ref 73])) (S' := (am_sh, h5, hm, g)) rfl hn6 ?_
    refine am_Rn.run am_h55 2 (F' := (39, [(0, .ref 65), (1, .int v1), (2, .int v2)], [.int ((h5 73 (v1.toNatClampNeg)) + 1), .int v1, .ref 73])) (S' := (am_sh, h5, hm, g)) rfl ?_
    obtain ⟨hn7, hp⟩ := am_ix_e hp
    obtain ⟨h8, h_h8, hp⟩ := am_b_e hp
    refine am_Rn.stepG am_h55 (c := v1 < 0 ∨ 24 ≤ v1.toNatClampNeg) (F' := (40, [(0, .ref 65), (1, .int v1), (2, .int v2)], [])) (S' := (am_sh, h8, hm, g)) (by subst h_h8; rfl) hn7 ?_
    cases hp
    exact am_Rn.ret am_h55 rfl
  · cases hp
    exact am_Rn.ret am_h55 rfl
/-- SixHands$Search.lay(IIII)V [65] -/
def zS_lay_J108 (rc : Int32 → Int32 → Int32 → Int32 → (Nat → Nat → Int32) → Option ((Nat → Nat → Int32))) (k51 : Int32 → Int32 → Int32 → Int32 → Int32 → Int32 → (Nat → Nat → Int32) → Option ((Nat → Nat → Int32))) (v1 : Int32) (v2 : Int32) (v3 : Int32) (v4 : Int32) (v5 : Int32) (v6 : Int32) (v7 : Int32) (s0 : Int32) (h : (Nat → Nat → Int32)) : Option ((Nat → Nat → Int32)) := if (v7 &&& v4) = 0 then (am_ix 144 v5 ((zS_isCrossing s0 (h 68 (v5.toNatClampNeg)) v4 h).bind fun r15 => if r15 = 0 then (am_ix 144 v5 ((zS_putHands v7 (h 68 (v5.toNatClampNeg)) h).bind fun r18 => (rc v1 (v2 + 1) ((v3 <<< (3 &&& 31)) ||| v6) (v4 ||| v7) r18).bind fun r19 => k51 v1 v2 v3 v4 v5 (v6 + 1) r19)) else (k51 v1 v2 v3 v4 v5 (v6 + 1) h))) else (k51 v1 v2 v3 v4 v5 (v6 + 1) h)
set_option maxRecDepth 20000 in
theorem ezS_lay_J108 {d : Nat} (hd : 2 ≤ d) (R : (Nat → Nat → Int32)) (rc : Int32 → Int32 → Int32 → Int32 → (Nat → Nat → Int32) → Option ((Nat → Nat → Int32))) (k51 : Int32 → Int32 → Int32 → Int32 → Int32 → Int32 → (Nat → Nat → Int32) → Option ((Nat → Nat → Int32))) (hrc : ∀ (a0 : Int32) (a1 : Int32) (a2 : Int32) (a3 : Int32) (h : (Nat → Nat → Int32)) (R0 : (Nat → Nat → Int32)), rc a0 a1 a2 a3 h = some R0 → am_Ev 83 Xs am_P (d - 1) 54 [.ref 65, .int a0, .int a1, .int a2, .int a3] (am_sh, h, hm, g) (none, (am_sh, R0, hm, g))) (hk51 : ∀ (v1 : Int32) (v2 : Int32) (v3 : Int32) (v4 : Int32) (v5 : Int32) (v6 : Int32) (h : (Nat → Nat → Int32)), k51 v1 v2 v3 v4 v5 v6 h = some R → am_Rn 83 Xs am_P d 54 (51, [(0, .ref 65), (1, .int v1), (2, .int v2), (3, .int v3), (4, .int v4), (5, .int v5), (6, .int v6)], []) (am_sh, h, hm, g) (none, (am_sh, R, hm, g))) (v1 : Int32) (v2 : Int32) (v3 : Int32) (v4 : Int32) (v5 : Int32) (v6 : Int32) (v7 : Int32) (s0 : Int32) (h : (Nat → Nat → Int32)) (hp : zS_lay_J108 rc k51 v1 v2 v3 v4 v5 v6 v7 s0 h = some R) : am_Rn 83 Xs am_P d 54 (108, [(0, .ref 65), (1, .int v1), (2, .int v2), (3, .int v3), (4, .int v4), (5, .int v5), (6, .int v6), (7, .int v7)], [.int s0]) (am_sh, h, hm, g) (none, (am_sh, R, hm, g)) := by
  obtain ⟨d, rfl⟩ : ∃ k, d = k + 1 := ⟨d - 1, by omega⟩
  unfold zS_lay_J108 at hp
  refine am_Rn.run am_h54 4 (F' := (115, [(8, .int s0), (0, .ref 65), (1, .int v1), (2, .int v2), (3, .int v3), (4, .int v4), (5, .int v5), (6, .int v6), (7, .int v7)], [.int (v7 &&& v4)])) (S' := (am_sh, h, hm, g)) rfl ?_
  refine am_Rn.ite am_h54 (c := (v7 &&& v4) = 0) (t := 118) (f := 168) (lv := [(8, .int s0), (0, .ref 65), (1, .int v1), (2, .int v2), (3, .int v3), (4, .int v4), (5, .int v5), (6, .int v6), (7, .int v7)]) (st := []) (S' := (am_sh, h, hm, g)) rfl hp (fun hc13 hp => ?_) (fun hc13 hp => ?_)
  · refine am_Rn.run am_h54 5 (F' := (127, [(8, .int s0), (0, .ref 65), (1, .int v1), (2, .int v2), (3, .int v3), (4, .int v4), (5, .int v5), (6, .int v6), (7, .int v7)], [.int v5, .ref 68, .int s0, .ref 65])) (S' := (am_sh, h, hm, g)) rfl ?_
    obtain ⟨hn14, hp⟩ := am_ix_e hp
    refine am_Rn.stepG am_h54 (c := v5 < 0 ∨ 144 ≤ v5.toNatClampNeg) (F' := (128, [(8, .int s0), (0, .ref 65), (1, .int v1), (2, .int v2), (3, .int v3), (4, .int v4), (5, .int v5), (6, .int v6), (7, .int v7)], [.int (h 68 (v5.toNatClampNeg)), .int s0, .ref 65])) (S' := (am_sh, h, hm, g)) rfl hn14 ?_
    refine am_Rn.run am_h54 1 (F' := (130, [(8, .int s0), (0, .ref 65), (1, .int v1), (2, .int v2), (3, .int v3), (4, .int v4), (5, .int v5), (6, .int v6), (7, .int v7)], [.int v4, .int (h 68 (v5.toNatClampNeg)), .int s0, .ref 65])) (S' := (am_sh, h, hm, g)) rfl ?_
    obtain ⟨r15, h_r15, hp⟩ := am_bind hp
    refine am_Rn.call am_h54 (mj := 56) (As := [.ref 65, .int s0, .int (h 68 (v5.toNatClampNeg)), .int v4]) (F' := (133, [(8, .int s0), (0, .ref 65), (1, .int v1), (2, .int v2), (3, .int v3), (4, .int v4), (5, .int v5), (6, .int v6), (7, .int v7)], [])) (M' := am_m56) (r := some (.int r15)) (S1 := (am_sh, h, hm, g)) rfl am_h56 rfl (ezS_isCrossing (by omega) s0 (h 68 (v5.toNatClampNeg)) v4 h _ h_r15) ?_
    refine am_Rn.ite am_h54 (c := r15 = 0) (t := 136) (f := 168) (lv := [(8, .int s0), (0, .ref 65), (1, .int v1), (2, .int v2), (3, .int v3), (4, .int v4), (5, .int v5), (6, .int v6), (7, .int v7)]) (st := []) (S' := (am_sh, h, hm, g)) rfl hp (fun hc16 hp => ?_) (fun hc16 hp => ?_)
    · refine am_Rn.run am_h54 5 (F' := (145, [(8, .int s0), (0, .ref 65), (1, .int v1), (2, .int v2), (3, .int v3), (4, .int v4), (5, .int v5), (6, .int v6), (7, .int v7)], [.int v5, .ref 68, .int v7, .ref 65])) (S' := (am_sh, h, hm, g)) rfl ?_
      obtain ⟨hn17, hp⟩ := am_ix_e hp
      refine am_Rn.stepG am_h54 (c := v5 < 0 ∨ 144 ≤ v5.toNatClampNeg) (F' := (146, [(8, .int s0), (0, .ref 65), (1, .int v1), (2, .int v2), (3, .int v3), (4, .int v4), (5, .int v5), (6, .int v6), (7, .int v7)], [.int (h 68 (v5.toNatClampNeg)), .int v7, .ref 65])) (S' := (am_sh, h, hm, g)) rfl hn17 ?_
      obtain ⟨r18, h_r18, hp⟩ := am_bind hp
      refine am_Rn.call am_h54 (mj := 57) (As := [.ref 65, .int v7, .int (h 68 (v5.toNatClampNeg))]) (F' := (149, [(8, .int s0), (0, .ref 65), (1, .int v1), (2, .int v2), (3, .int v3), (4, .int v4), (5, .int v5), (6, .int v6), (7, .int v7)], [])) (M' := am_m57) (r := none) (S1 := (am_sh, r18, hm, g)) rfl am_h57 rfl (ezS_putHands (by omega) v7 (h 68 (v5.toNatClampNeg)) h _ h_r18) ?_
      refine am_Rn.run am_h54 13 (F' := (165, [(8, .int s0), (0, .ref 65), (1, .int v1), (2, .int v2), (3, .int v3), (4, .int v4), (5, .int v5), (6, .int v6), (7, .int v7)], [.int (v4 ||| v7), .int ((v3 <<< (3 &&& 31)) ||| v6), .int (v2 + 1), .int v1, .ref 65])) (S' := (am_sh, r18, hm, g)) rfl ?_
      obtain ⟨r19, h_r19, hp⟩ := am_bind hp
      refine am_Rn.call am_h54 (mj := 54) (As := [.ref 65, .int v1, .int (v2 + 1), .int ((v3 <<< (3 &&& 31)) ||| v6), .int (v4 ||| v7)]) (F' := (168, [(8, .int s0), (0, .ref 65), (1, .int v1), (2, .int v2), (3, .int v3), (4, .int v4), (5, .int v5), (6, .int v6), (7, .int v7)], [])) (M' := am_m54) (r := none) (S1 := (am_sh, r19, hm, g)) rfl am_h54 rfl (hrc v1 (v2 + 1) ((v3 <<< (3 &&& 31)) ||| v6) (v4 ||| v7) r18 _ h_r19) ?_
      refine am_Rn.run am_h54 2 (F' := (51, [(6, .int (v6 + 1)), (8, .int s0), (0, .ref 65), (1, .int v1), (2, .int v2), (3, .int v3), (4, .int v4), (5, .int v5), (7, .int v7)], [])) (S' := (am_sh, r19, hm, g)) rfl ?_
      refine am_Rn.sub [2, 3, 4, 5, 6, 7, 0] rfl rfl ?_
      exact hk51 v1 v2 v3 v4 v5 (v6 + 1) r19 hp
    · refine am_Rn.run am_h54 2 (F' := (51, [(6, .int (v6 + 1)), (8, .int s0), (0, .ref 65), (1, .int v1), (2, .int v2), (3, .int v3), (4, .int v4), (5, .int v5), (7, .int v7)], [])) (S' := (am_sh, h, hm, g)) rfl ?_
      refine am_Rn.sub [2, 3, 4, 5, 6, 7, 0] rfl rfl ?_
      exact hk51 v1 v2 v3 v4 v5 (v6 + 1) h hp
  · refine am_Rn.run am_h54 2 (F' := (51, [(6, .int (v6 + 1)), (8, .int s0), (0, .ref 65), (1, .int v1), (2, .int v2), (3, .int v3), (4, .int v4), (5, .int v5), (7, .int v7)], [])) (S' := (am_sh, h, hm, g)) rfl ?_
    refine am_Rn.sub [2, 3, 4, 5, 6, 7, 0] rfl rfl ?_
    exact hk51 v1 v2 v3 v4 v5 (v6 + 1) h hp
def zS_lay_L51 (rc : Int32 → Int32 → Int32 → Int32 → (Nat → Nat → Int32) → Option ((Nat → Nat → Int32))) : Nat → Int32 → Int32 → Int32 → Int32 → Int32 → Int32 → (Nat → Nat → Int32) → Option ((Nat → Nat → Int32))
  | 0, _, _, _, _, _, _, _ => none
  | n + 1, v1, v2, v3, v4, v5, v6, h => if v6 < 6 then (am_ix 144 v5 (if (((h 69 (v5.toNatClampNeg)) >>> (v6 &&& 31)) &&& 1) = 0 then (zS_lay_L51 rc n v1 v2 v3 v4 v5 (v6 + 1) h) else (am_ix 6 v2 (am_b (zH_handsOf (h 66 (v2.toNatClampNeg)) v6) fun r10 => am_ix 6 v2 (if (h 66 (v2.toNatClampNeg)) = 2 then (zS_lay_J108 rc (fun v1 v2 v3 v4 v5 v6 h => zS_lay_L51 rc n v1 v2 v3 v4 v5 v6 h) v1 v2 v3 v4 v5 v6 r10 (2 * v6) h) else (zS_lay_J108 rc (fun v1 v2 v3 v4 v5 v6 h => zS_lay_L51 rc n v1 v2 v3 v4 v5 v6 h) v1 v2 v3 v4 v5 v6 r10 v6 h)))))) else (some h)
set_option maxRecDepth 20000 in
theorem ezS_lay_L51 {d : Nat} (hd : 2 ≤ d) (R : (Nat → Nat → Int32)) (rc : Int32 → Int32 → Int32 → Int32 → (Nat → Nat → Int32) → Option ((Nat → Nat → Int32))) (hrc : ∀ (a0 : Int32) (a1 : Int32) (a2 : Int32) (a3 : Int32) (h : (Nat → Nat → Int32)) (R0 : (Nat → Nat → Int32)), rc a0 a1 a2 a3 h = some R0 → am_Ev 83 Xs am_P (d - 1) 54 [.ref 65, .int a0, .int a1, .int a2, .int a3] (am_sh, h, hm, g) (none, (am_sh, R0, hm, g))) : ∀ (n : Nat) (v1 : Int32) (v2 : Int32) (v3 : Int32) (v4 : Int32) (v5 : Int32) (v6 : Int32) (h : (Nat → Nat → Int32)), zS_lay_L51 rc n v1 v2 v3 v4 v5 v6 h = some R → am_Rn 83 Xs am_P d 54 (51, [(0, .ref 65), (1, .int v1), (2, .int v2), (3, .int v3), (4, .int v4), (5, .int v5), (6, .int v6)], []) (am_sh, h, hm, g) (none, (am_sh, R, hm, g))
  | 0, _, _, _, _, _, _, _, hp => by cases hp
  | n + 1, v1, v2, v3, v4, v5, v6, h, hp => by
    obtain ⟨d, rfl⟩ : ∃ k, d = k + 1 := ⟨d - 1, by omega⟩
    unfold zS_lay_L51 at hp
    refine am_Rn.run am_h54 2 (F' := (55, [(0, .ref 65), (1, .int v1), (2, .int v2), (3, .int v3), (4, .int v4), (5, .int v5), (6, .int v6)], [.int 6, .int v6])) (S' := (am_sh, h, hm, g)) rfl ?_
    refine am_Rn.ite am_h54 (c := v6 < 6) (t := 58) (f := 174) (lv := [(0, .ref 65), (1, .int v1), (2, .int v2), (3, .int v3), (4, .int v4), (5, .int v5), (6, .int v6)]) (st := []) (S' := (am_sh, h, hm, g)) rfl hp (fun hc6 hp => ?_) (fun hc6 hp => ?_)
    · refine am_Rn.run am_h54 3 (F' := (64, [(0, .ref 65), (1, .int v1), (2, .int v2), (3, .int v3), (4, .int v4), (5, .int v5), (6, .int v6)], [.int v5, .ref 69])) (S' := (am_sh, h, hm, g)) rfl ?_
      obtain ⟨hn7, hp⟩ := am_ix_e hp
      refine am_Rn.stepG am_h54 (c := v5 < 0 ∨ 144 ≤ v5.toNatClampNeg) (F' := (65, [(0, .ref 65), (1, .int v1), (2, .int v2), (3, .int v3), (4, .int v4), (5, .int v5), (6, .int v6)], [.int (h 69 (v5.toNatClampNeg))])) (S' := (am_sh, h, hm, g)) rfl hn7 ?_
      refine am_Rn.run am_h54 4 (F' := (70, [(0, .ref 65), (1, .int v1), (2, .int v2), (3, .int v3), (4, .int v4), (5, .int v5), (6, .int v6)], [.int (((h 69 (v5.toNatClampNeg)) >>> (v6 &&& 31)) &&& 1)])) (S' := (am_sh, h, hm, g)) rfl ?_
      refine am_Rn.ite am_h54 (c := (((h 69 (v5.toNatClampNeg)) >>> (v6 &&& 31)) &&& 1) = 0) (t := 73) (f := 76) (lv := [(0, .ref 65), (1, .int v1), (2, .int v2), (3, .int v3), (4, .int v4), (5, .int v5), (6, .int v6)]) (st := []) (S' := (am_sh, h, hm, g)) rfl hp (fun hc8 hp => ?_) (fun hc8 hp => ?_)
      · refine am_Rn.run am_h54 3 (F' := (51, [(6, .int (v6 + 1)), (0, .ref 65), (1, .int v1), (2, .int v2), (3, .int v3), (4, .int v4), (5, .int v5)], [])) (S' := (am_sh, h, hm, g)) rfl ?_
        refine am_Rn.sub [1, 2, 3, 4, 5, 6, 0] rfl rfl ?_
        exact ezS_lay_L51 hd R rc hrc n v1 v2 v3 v4 v5 (v6 + 1) h hp
      · refine am_Rn.run am_h54 3 (F' := (81, [(0, .ref 65), (1, .int v1), (2, .int v2), (3, .int v3), (4, .int v4), (5, .int v5), (6, .int v6)], [.int v2, .ref 66])) (S' := (am_sh, h, hm, g)) rfl ?_
        obtain ⟨hn9, hp⟩ := am_ix_e hp
        refine am_Rn.stepG am_h54 (c := v2 < 0 ∨ 6 ≤ v2.toNatClampNeg) (F' := (82, [(0, .ref 65), (1, .int v1), (2, .int v2), (3, .int v3), (4, .int v4), (5, .int v5), (6, .int v6)], [.int (h 66 (v2.toNatClampNeg))])) (S' := (am_sh, h, hm, g)) rfl hn9 ?_
        refine am_Rn.run am_h54 1 (F' := (84, [(0, .ref 65), (1, .int v1), (2, .int v2), (3, .int v3), (4, .int v4), (5, .int v5), (6, .int v6)], [.int v6, .int (h 66 (v2.toNatClampNeg))])) (S' := (am_sh, h, hm, g)) rfl ?_
        obtain ⟨r10, h_r10, hp⟩ := am_b_e hp
        refine am_Rn.call am_h54 (mj := 145) (As := [.int (h 66 (v2.toNatClampNeg)), .int v6]) (F' := (87, [(0, .ref 65), (1, .int v1), (2, .int v2), (3, .int v3), (4, .int v4), (5, .int v5), (6, .int v6)], [])) (M' := am_m145) (r := some (.int r10)) (S1 := (am_sh, h, hm, g)) rfl am_h145 rfl (by subst h_r10; exact (ezH_handsOf (by omega) (h 66 (v2.toNatClampNeg)) v6)) ?_
        refine am_Rn.run am_h54 4 (F' := (94, [(7, .int r10), (0, .ref 65), (1, .int v1), (2, .int v2), (3, .int v3), (4, .int v4), (5, .int v5), (6, .int v6)], [.int v2, .ref 66])) (S' := (am_sh, h, hm, g)) rfl ?_
        obtain ⟨hn11, hp⟩ := am_ix_e hp
        refine am_Rn.stepG am_h54 (c := v2 < 0 ∨ 6 ≤ v2.toNatClampNeg) (F' := (95, [(7, .int r10), (0, .ref 65), (1, .int v1), (2, .int v2), (3, .int v3), (4, .int v4), (5, .int v5), (6, .int v6)], [.int (h 66 (v2.toNatClampNeg))])) (S' := (am_sh, h, hm, g)) rfl hn11 ?_
        refine am_Rn.run am_h54 1 (F' := (96, [(7, .int r10), (0, .ref 65), (1, .int v1), (2, .int v2), (3, .int v3), (4, .int v4), (5, .int v5), (6, .int v6)], [.int 2, .int (h 66 (v2.toNatClampNeg))])) (S' := (am_sh, h, hm, g)) rfl ?_
        refine am_Rn.ite am_h54 (c := (h 66 (v2.toNatClampNeg)) = 2) (t := 99) (f := 106) (lv := [(7, .int r10), (0, .ref 65), (1, .int v1), (2, .int v2), (3, .int v3), (4, .int v4), (5, .int v5), (6, .int v6)]) (st := []) (S' := (am_sh, h, hm, g)) rfl hp (fun hc12 hp => ?_) (fun hc12 hp => ?_)
        · refine am_Rn.run am_h54 4 (F' := (108, [(7, .int r10), (0, .ref 65), (1, .int v1), (2, .int v2), (3, .int v3), (4, .int v4), (5, .int v5), (6, .int v6)], [.int (2 * v6)])) (S' := (am_sh, h, hm, g)) rfl ?_
          refine am_Rn.sub [1, 2, 3, 4, 5, 6, 7, 0] rfl rfl ?_
          exact ezS_lay_J108 hd R rc (fun v1 v2 v3 v4 v5 v6 h => zS_lay_L51 rc n v1 v2 v3 v4 v5 v6 h) hrc (fun v1 v2 v3 v4 v5 v6 h hp => ezS_lay_L51 hd R rc hrc n v1 v2 v3 v4 v5 v6 h hp) v1 v2 v3 v4 v5 v6 r10 (2 * v6) h hp
        · refine am_Rn.run am_h54 1 (F' := (108, [(7, .int r10), (0, .ref 65), (1, .int v1), (2, .int v2), (3, .int v3), (4, .int v4), (5, .int v5), (6, .int v6)], [.int v6])) (S' := (am_sh, h, hm, g)) rfl ?_
          refine am_Rn.sub [1, 2, 3, 4, 5, 6, 7, 0] rfl rfl ?_
          exact ezS_lay_J108 hd R rc (fun v1 v2 v3 v4 v5 v6 h => zS_lay_L51 rc n v1 v2 v3 v4 v5 v6 h) hrc (fun v1 v2 v3 v4 v5 v6 h hp => ezS_lay_L51 hd R rc hrc n v1 v2 v3 v4 v5 v6 h hp) v1 v2 v3 v4 v5 v6 r10 v6 h hp
    · cases hp
      exact am_Rn.ret am_h54 rfl
def zS_lay : Nat → Int32 → Int32 → Int32 → Int32 → (Nat → Nat → Int32) → Option ((Nat → Nat → Int32))
  | 0, _, _, _, _, _ => none
  | n + 1, v1, v2, v3, v4, h => if v2 < (h 65 2) then (am_b ((v1 * 6) + v2) fun x2 => am_ix 144 x2 (if (h 68 (x2.toNatClampNeg)) = (-1) then (((fun v1 v2 v3 v4 h => zS_lay n v1 v2 v3 v4 h) v1 (v2 + 1) (v3 <<< (3 &&& 31)) v4 h).bind fun r5 => some r5) else (zS_lay_L51 (fun v1 v2 v3 v4 h => zS_lay n v1 v2 v3 v4 h) am_N v1 v2 v3 v4 x2 0 h))) else ((zS_keep v1 v3 h).bind fun r20 => some r20)
set_option maxRecDepth 20000 in
theorem ezS_lay : ∀ {d : Nat} (n : Nat), n + 2 ≤ d → ∀ (v1 : Int32) (v2 : Int32) (v3 : Int32) (v4 : Int32) (h : (Nat → Nat → Int32)) (R : (Nat → Nat → Int32)), zS_lay n v1 v2 v3 v4 h = some R → am_Ev 83 Xs am_P d 54 [.ref 65, .int v1, .int v2, .int v3, .int v4] (am_sh, h, hm, g) (none, (am_sh, R, hm, g))
  | _, 0, _, _, _, _, _, _, _, hp => by cases hp
  | d, n + 1, hd0, v1, v2, v3, v4, h, R, hp => by
    obtain ⟨d, rfl⟩ : ∃ k, d = k + 1 := ⟨d - 1, by omega⟩
    have hd : 2 ≤ d + 1 := by omega
    unfold zS_lay at hp
    show am_Rn 83 Xs am_P _ 54 (0, [(0, .ref 65), (1, .int v1), (2, .int v2), (3, .int v3), (4, .int v4)], []) _ _
    refine am_Rn.run am_h54 3 (F' := (5, [(0, .ref 65), (1, .int v1), (2, .int v2), (3, .int v3), (4, .int v4)], [.int (h 65 2), .int v2])) (S' := (am_sh, h, hm, g)) rfl ?_
    refine am_Rn.ite am_h54 (c := v2 < (h 65 2)) (t := 15) (f := 8) (lv := [(0, .ref 65), (1, .int v1), (2, .int v2), (3, .int v3), (4, .int v4)]) (st := []) (S' := (am_sh, h, hm, g)) rfl hp (fun hc1 hp => ?_) (fun hc1 hp => ?_)
    · obtain ⟨x2, h_x2, hp⟩ := am_b_e hp
      refine am_Rn.run am_h54 9 (F' := (29, [(5, .int x2), (0, .ref 65), (1, .int v1), (2, .int v2), (3, .int v3), (4, .int v4)], [.int x2, .ref 68])) (S' := (am_sh, h, hm, g)) (by subst h_x2; rfl) ?_
      obtain ⟨hn3, hp⟩ := am_ix_e hp
      refine am_Rn.stepG am_h54 (c := x2 < 0 ∨ 144 ≤ x2.toNatClampNeg) (F' := (30, [(5, .int x2), (0, .ref 65), (1, .int v1), (2, .int v2), (3, .int v3), (4, .int v4)], [.int (h 68 (x2.toNatClampNeg))])) (S' := (am_sh, h, hm, g)) rfl hn3 ?_
      refine am_Rn.run am_h54 1 (F' := (31, [(5, .int x2), (0, .ref 65), (1, .int v1), (2, .int v2), (3, .int v3), (4, .int v4)], [.int (-1), .int (h 68 (x2.toNatClampNeg))])) (S' := (am_sh, h, hm, g)) rfl ?_
      refine am_Rn.ite am_h54 (c := (h 68 (x2.toNatClampNeg)) = (-1)) (t := 34) (f := 48) (lv := [(5, .int x2), (0, .ref 65), (1, .int v1), (2, .int v2), (3, .int v3), (4, .int v4)]) (st := []) (S' := (am_sh, h, hm, g)) rfl hp (fun hc4 hp => ?_) (fun hc4 hp => ?_)
      · refine am_Rn.run am_h54 9 (F' := (44, [(5, .int x2), (0, .ref 65), (1, .int v1), (2, .int v2), (3, .int v3), (4, .int v4)], [.int v4, .int (v3 <<< (3 &&& 31)), .int (v2 + 1), .int v1, .ref 65])) (S' := (am_sh, h, hm, g)) rfl ?_
        obtain ⟨r5, h_r5, hp⟩ := am_bind hp
        refine am_Rn.call am_h54 (mj := 54) (As := [.ref 65, .int v1, .int (v2 + 1), .int (v3 <<< (3 &&& 31)), .int v4]) (F' := (47, [(5, .int x2), (0, .ref 65), (1, .int v1), (2, .int v2), (3, .int v3), (4, .int v4)], [])) (M' := am_m54) (r := none) (S1 := (am_sh, r5, hm, g)) rfl am_h54 rfl ((fun v1 v2 v3 v4 h R0 hp => ezS_lay n (by omega) v1 v2 v3 v4 h R0 hp) v1 (v2 + 1) (v3 <<< (3 &&& 31)) v4 h _ h_r5) ?_
        cases hp
        exact am_Rn.ret am_h54 rfl
      · refine am_Rn.run am_h54 2 (F' := (51, [(6, .int 0), (5, .int x2), (0, .ref 65), (1, .int v1), (2, .int v2), (3, .int v3), (4, .int v4)], [])) (S' := (am_sh, h, hm, g)) rfl ?_
        refine am_Rn.sub [2, 3, 4, 5, 6, 1, 0] rfl rfl ?_
        exact ezS_lay_L51 hd R (fun v1 v2 v3 v4 h => zS_lay n v1 v2 v3 v4 h) (fun v1 v2 v3 v4 h R0 hp => ezS_lay n (by omega) v1 v2 v3 v4 h R0 hp) am_N v1 v2 v3 v4 x2 0 h hp
    · refine am_Rn.run am_h54 3 (F' := (11, [(0, .ref 65), (1, .int v1), (2, .int v2), (3, .int v3), (4, .int v4)], [.int v3, .int v1, .ref 65])) (S' := (am_sh, h, hm, g)) rfl ?_
      obtain ⟨r20, h_r20, hp⟩ := am_bind hp
      refine am_Rn.call am_h54 (mj := 55) (As := [.ref 65, .int v1, .int v3]) (F' := (14, [(0, .ref 65), (1, .int v1), (2, .int v2), (3, .int v3), (4, .int v4)], [])) (M' := am_m55) (r := none) (S1 := (am_sh, r20, hm, g)) rfl am_h55 rfl (ezS_keep (by omega) v1 v3 h _ h_r20) ?_
      cases hp
      exact am_Rn.ret am_h54 rfl
/-- SixHands$Search.run(I)I [65] -/
def zS_run_J35 (k7 : Int32 → Int32 → (Nat → Nat → Int32) → Option (Int32 × (Nat → Nat → Int32))) (v1 : Int32) (v2 : Int32) (h : (Nat → Nat → Int32)) : Option (Int32 × (Nat → Nat → Int32)) := (zS_priceAll v2 h).bind fun r9 => am_ix 24 v2 (if (r9 74 (v2.toNatClampNeg)) < 1000000 then (am_b (v2 + (-1)) fun x12 => k7 v1 x12 r9) else (some ((1000000, r9))))
set_option maxRecDepth 20000 in
theorem ezS_run_J35 {d : Nat} (hd : 11 ≤ d) (R : Int32 × (Nat → Nat → Int32)) (k7 : Int32 → Int32 → (Nat → Nat → Int32) → Option (Int32 × (Nat → Nat → Int32))) (hk7 : ∀ (v1 : Int32) (v2 : Int32) (h : (Nat → Nat → Int32)), k7 v1 v2 h = some R → am_Rn 83 Xs am_P d 52 (7, [(0, .ref 65), (1, .int v1), (2, .int v2)], []) (am_sh, h, hm, g) (some (.int R.1), (am_sh, R.2, hm, g))) (v1 : Int32) (v2 : Int32) (h : (Nat → Nat → Int32)) (hp : zS_run_J35 k7 v1 v2 h = some R) : am_Rn 83 Xs am_P d 52 (35, [(0, .ref 65), (1, .int v1), (2, .int v2)], []) (am_sh, h, hm, g) (some (.int R.1), (am_sh, R.2, hm, g)) := by
  obtain ⟨d, rfl⟩ : ∃ k, d = k + 1 := ⟨d - 1, by omega⟩
  unfold zS_run_J35 at hp
  refine am_Rn.run am_h52 2 (F' := (37, [(0, .ref 65), (1, .int v1), (2, .int v2)], [.int v2, .ref 65])) (S' := (am_sh, h, hm, g)) rfl ?_
  obtain ⟨r9, h_r9, hp⟩ := am_bind hp
  refine am_Rn.call am_h52 (mj := 58) (As := [.ref 65, .int v2]) (F' := (40, [(0, .ref 65), (1, .int v1), (2, .int v2)], [])) (M' := am_m58) (r := none) (S1 := (am_sh, r9, hm, g)) rfl am_h58 rfl (ezS_priceAll (by omega) v2 h _ h_r9) ?_
  refine am_Rn.run am_h52 3 (F' := (45, [(0, .ref 65), (1, .int v1), (2, .int v2)], [.int v2, .ref 74])) (S' := (am_sh, r9, hm, g)) rfl ?_
  obtain ⟨hn10, hp⟩ := am_ix_e hp
  refine am_Rn.stepG am_h52 (c := v2 < 0 ∨ 24 ≤ v2.toNatClampNeg) (F' := (46, [(0, .ref 65), (1, .int v1), (2, .int v2)], [.int (r9 74 (v2.toNatClampNeg))])) (S' := (am_sh, r9, hm, g)) rfl hn10 ?_
  refine am_Rn.run am_h52 1 (F' := (48, [(0, .ref 65), (1, .int v1), (2, .int v2)], [.int 1000000, .int (r9 74 (v2.toNatClampNeg))])) (S' := (am_sh, r9, hm, g)) rfl ?_
  refine am_Rn.ite am_h52 (c := (r9 74 (v2.toNatClampNeg)) < 1000000) (t := 54) (f := 51) (lv := [(0, .ref 65), (1, .int v1), (2, .int v2)]) (st := []) (S' := (am_sh, r9, hm, g)) rfl hp (fun hc11 hp => ?_) (fun hc11 hp => ?_)
  · obtain ⟨x12, h_x12, hp⟩ := am_b_e hp
    refine am_Rn.run am_h52 2 (F' := (7, [(2, .int x12), (0, .ref 65), (1, .int v1)], [])) (S' := (am_sh, r9, hm, g)) (by subst h_x12; rfl) ?_
    refine am_Rn.sub [1, 2, 0] rfl rfl ?_
    exact hk7 v1 x12 r9 hp
  · refine am_Rn.run am_h52 1 (F' := (53, [(0, .ref 65), (1, .int v1), (2, .int v2)], [.int 1000000])) (S' := (am_sh, r9, hm, g)) rfl ?_
    cases hp
    exact am_Rn.ret am_h52 rfl
def zS_run_L7 : Nat → Int32 → Int32 → (Nat → Nat → Int32) → Option (Int32 × (Nat → Nat → Int32))
  | 0, _, _, _ => none
  | n + 1, v1, v2, h => if v2 < v1 then (if v1 < (h 65 1) then (am_ix 24 v1 (some ((h 74 (v1.toNatClampNeg), h)))) else (some ((0, h)))) else (am_ix 24 v2 (am_b (va_up h 73 (upd (h 73) (v2.toNatClampNeg) 0)) fun h6 => (zS_isRoomFor v2 h6).bind fun r7 => if r7 = 0 then (zS_run_J35 (fun v1 v2 h => zS_run_L7 n v1 v2 h) v1 v2 h6) else ((zS_lay 8 v2 0 0 0 h6).bind fun r13 => zS_run_J35 (fun v1 v2 h => zS_run_L7 n v1 v2 h) v1 v2 r13)))
set_option maxRecDepth 20000 in
theorem ezS_run_L7 {d : Nat} (hd : 11 ≤ d) (R : Int32 × (Nat → Nat → Int32)) : ∀ (n : Nat) (v1 : Int32) (v2 : Int32) (h : (Nat → Nat → Int32)), zS_run_L7 n v1 v2 h = some R → am_Rn 83 Xs am_P d 52 (7, [(0, .ref 65), (1, .int v1), (2, .int v2)], []) (am_sh, h, hm, g) (some (.int R.1), (am_sh, R.2, hm, g))
  | 0, _, _, _, hp => by cases hp
  | n + 1, v1, v2, h, hp => by
    obtain ⟨d, rfl⟩ : ∃ k, d = k + 1 := ⟨d - 1, by omega⟩
    unfold zS_run_L7 at hp
    refine am_Rn.run am_h52 2 (F' := (9, [(0, .ref 65), (1, .int v1), (2, .int v2)], [.int v1, .int v2])) (S' := (am_sh, h, hm, g)) rfl ?_
    refine am_Rn.ite am_h52 (c := v2 < v1) (t := 60) (f := 12) (lv := [(0, .ref 65), (1, .int v1), (2, .int v2)]) (st := []) (S' := (am_sh, h, hm, g)) rfl hp (fun hc2 hp => ?_) (fun hc2 hp => ?_)
    · refine am_Rn.run am_h52 3 (F' := (65, [(0, .ref 65), (1, .int v1), (2, .int v2)], [.int (h 65 1), .int v1])) (S' := (am_sh, h, hm, g)) rfl ?_
      refine am_Rn.ite am_h52 (c := v1 < (h 65 1)) (t := 68) (f := 77) (lv := [(0, .ref 65), (1, .int v1), (2, .int v2)]) (st := []) (S' := (am_sh, h, hm, g)) rfl hp (fun hc3 hp => ?_) (fun hc3 hp => ?_)
      · refine am_Rn.run am_h52 3 (F' := (73, [(0, .ref 65), (1, .int v1), (2, .int v2)], [.int v1, .ref 74])) (S' := (am_sh, h, hm, g)) rfl ?_
        obtain ⟨hn4, hp⟩ := am_ix_e hp
        refine am_Rn.stepG am_h52 (c := v1 < 0 ∨ 24 ≤ v1.toNatClampNeg) (F' := (74, [(0, .ref 65), (1, .int v1), (2, .int v2)], [.int (h 74 (v1.toNatClampNeg))])) (S' := (am_sh, h, hm, g)) rfl hn4 ?_
        refine am_Rn.run am_h52 1 (F' := (78, [(0, .ref 65), (1, .int v1), (2, .int v2)], [.int (h 74 (v1.toNatClampNeg))])) (S' := (am_sh, h, hm, g)) rfl ?_
        cases hp
        exact am_Rn.ret am_h52 rfl
      · refine am_Rn.run am_h52 1 (F' := (78, [(0, .ref 65), (1, .int v1), (2, .int v2)], [.int 0])) (S' := (am_sh, h, hm, g)) rfl ?_
        cases hp
        exact am_Rn.ret am_h52 rfl
    · refine am_Rn.run am_h52 4 (F' := (18, [(0, .ref 65), (1, .int v1), (2, .int v2)], [.int 0, .int v2, .ref 73])) (S' := (am_sh, h, hm, g)) rfl ?_
      obtain ⟨hn5, hp⟩ := am_ix_e hp
      obtain ⟨h6, h_h6, hp⟩ := am_b_e hp
      refine am_Rn.stepG am_h52 (c := v2 < 0 ∨ 24 ≤ v2.toNatClampNeg) (F' := (19, [(0, .ref 65), (1, .int v1), (2, .int v2)], [])) (S' := (am_sh, h6, hm, g)) (by subst h_h6; rfl) hn5 ?_
      refine am_Rn.run am_h52 2 (F' := (21, [(0, .ref 65), (1, .int v1), (2, .int v2)], [.int v2, .ref 65])) (S' := (am_sh, h6, hm, g)) rfl ?_
      obtain ⟨r7, h_r7, hp⟩ := am_bind hp
      refine am_Rn.call am_h52 (mj := 53) (As := [.ref 65, .int v2]) (F' := (24, [(0, .ref 65), (1, .int v1), (2, .int v2)], [])) (M' := am_m53) (r := some (.int r7)) (S1 := (am_sh, h6, hm, g)) rfl am_h53 rfl (ezS_isRoomFor (by omega) v2 h6 _ h_r7) ?_
      refine am_Rn.ite am_h52 (c := r7 = 0) (t := 35) (f := 27) (lv := [(0, .ref 65), (1, .int v1), (2, .int v2)]) (st := []) (S' := (am_sh, h6, hm, g)) rfl hp (fun hc8 hp => ?_) (fun hc8 hp => ?_)
      · exact ezS_run_J35 hd R (fun v1 v2 h => zS_run_L7 n v1 v2 h) (fun v1 v2 h hp => ezS_run_L7 hd R n v1 v2 h hp) v1 v2 h6 hp
      · refine am_Rn.run am_h52 5 (F' := (32, [(0, .ref 65), (1, .int v1), (2, .int v2)], [.int 0, .int 0, .int 0, .int v2, .ref 65])) (S' := (am_sh, h6, hm, g)) rfl ?_
        obtain ⟨r13, h_r13, hp⟩ := am_bind hp
        refine am_Rn.call am_h52 (mj := 54) (As := [.ref 65, .int v2, .int 0, .int 0, .int 0]) (F' := (35, [(0, .ref 65), (1, .int v1), (2, .int v2)], [])) (M' := am_m54) (r := none) (S1 := (am_sh, r13, hm, g)) rfl am_h54 rfl (ezS_lay 8 (by omega) v2 0 0 0 h6 _ h_r13) ?_
        exact ezS_run_J35 hd R (fun v1 v2 h => zS_run_L7 n v1 v2 h) (fun v1 v2 h hp => ezS_run_L7 hd R n v1 v2 h hp) v1 v2 r13 hp
def zS_run (v1 : Int32) (h : (Nat → Nat → Int32)) : Option (Int32 × (Nat → Nat → Int32)) := am_b ((h 65 1) - 1) fun x1 => zS_run_L7 am_N v1 x1 h
set_option maxRecDepth 20000 in
theorem ezS_run {d : Nat} (hd : 11 ≤ d) (v1 : Int32) (h : (Nat → Nat → Int32)) (R : Int32 × (Nat → Nat → Int32)) (hp : zS_run v1 h = some R) : am_Ev 83 Xs am_P d 52 [.ref 65, .int v1] (am_sh, h, hm, g) (some (.int R.1), (am_sh, R.2, hm, g)) := by
  obtain ⟨d, rfl⟩ : ∃ k, d = k + 1 := ⟨d - 1, by omega⟩
  unfold zS_run at hp
  show am_Rn 83 Xs am_P _ 52 (0, [(0, .ref 65), (1, .int v1)], []) _ _
  obtain ⟨x1, h_x1, hp⟩ := am_b_e hp
  refine am_Rn.run am_h52 5 (F' := (7, [(2, .int x1), (0, .ref 65), (1, .int v1)], [])) (S' := (am_sh, h, hm, g)) (by subst h_x1; rfl) ?_
  refine am_Rn.sub [1, 2, 0] rfl rfl ?_
  exact ezS_run_L7 hd R am_N v1 x1 h hp
/-- SixHands$Search.firstAt(III)I [65] -/
def zS_firstAt_L26 : Nat → Int32 → Int32 → Int32 → Int32 → Int32 → Int32 → (Nat → Nat → Int32) → Option (Int32)
  | 0, _, _, _, _, _, _, _ => none
  | n + 1, v1, v2, v3, v4, v5, v6, h => am_ix 24 v1 (if v6 < (v4 + (h 73 (v1.toNatClampNeg))) then (am_ix 17280 v6 (am_ix 17280 v6 ((zS_priceOfSwaps v1 v2 (h 71 (v6.toNatClampNeg)) v5 h).bind fun r8 => if ((h 72 (v6.toNatClampNeg)) + r8) = v3 then (some v6) else (zS_firstAt_L26 n v1 v2 v3 v4 v5 (v6 + 1) h)))) else (some v4))
set_option maxRecDepth 20000 in
theorem ezS_firstAt_L26 {d : Nat} (hd : 2 ≤ d) (R : Int32) : ∀ (n : Nat) (v1 : Int32) (v2 : Int32) (v3 : Int32) (v4 : Int32) (v5 : Int32) (v6 : Int32) (h : (Nat → Nat → Int32)), zS_firstAt_L26 n v1 v2 v3 v4 v5 v6 h = some R → am_Rn 83 Xs am_P d 67 (26, [(0, .ref 65), (1, .int v1), (2, .int v2), (3, .int v3), (4, .int v4), (5, .int v5), (6, .int v6)], []) (am_sh, h, hm, g) (some (.int R), (am_sh, h, hm, g))
  | 0, _, _, _, _, _, _, _, hp => by cases hp
  | n + 1, v1, v2, v3, v4, v5, v6, h, hp => by
    obtain ⟨d, rfl⟩ : ∃ k, d = k + 1 := ⟨d - 1, by omega⟩
    unfold zS_firstAt_L26 at hp
    refine am_Rn.run am_h67 5 (F' := (35, [(0, .ref 65), (1, .int v1), (2, .int v2), (3, .int v3), (4, .int v4), (5, .int v5), (6, .int v6)], [.int v1, .ref 73, .int v4, .int v6])) (S' := (am_sh, h, hm, g)) rfl ?_
    obtain ⟨hn4, hp⟩ := am_ix_e hp
    refine am_Rn.stepG am_h67 (c := v1 < 0 ∨ 24 ≤ v1.toNatClampNeg) (F' := (36, [(0, .ref 65), (1, .int v1), (2, .int v2), (3, .int v3), (4, .int v4), (5, .int v5), (6, .int v6)], [.int (h 73 (v1.toNatClampNeg)), .int v4, .int v6])) (S' := (am_sh, h, hm, g)) rfl hn4 ?_
    refine am_Rn.run am_h67 1 (F' := (37, [(0, .ref 65), (1, .int v1), (2, .int v2), (3, .int v3), (4, .int v4), (5, .int v5), (6, .int v6)], [.int (v4 + (h 73 (v1.toNatClampNeg))), .int v6])) (S' := (am_sh, h, hm, g)) rfl ?_
    refine am_Rn.ite am_h67 (c := v6 < (v4 + (h 73 (v1.toNatClampNeg)))) (t := 40) (f := 76) (lv := [(0, .ref 65), (1, .int v1), (2, .int v2), (3, .int v3), (4, .int v4), (5, .int v5), (6, .int v6)]) (st := []) (S' := (am_sh, h, hm, g)) rfl hp (fun hc5 hp => ?_) (fun hc5 hp => ?_)
    · refine am_Rn.run am_h67 3 (F' := (46, [(0, .ref 65), (1, .int v1), (2, .int v2), (3, .int v3), (4, .int v4), (5, .int v5), (6, .int v6)], [.int v6, .ref 72])) (S' := (am_sh, h, hm, g)) rfl ?_
      obtain ⟨hn6, hp⟩ := am_ix_e hp
      refine am_Rn.stepG am_h67 (c := v6 < 0 ∨ 17280 ≤ v6.toNatClampNeg) (F' := (47, [(0, .ref 65), (1, .int v1), (2, .int v2), (3, .int v3), (4, .int v4), (5, .int v5), (6, .int v6)], [.int (h 72 (v6.toNatClampNeg))])) (S' := (am_sh, h, hm, g)) rfl hn6 ?_
      refine am_Rn.run am_h67 6 (F' := (56, [(0, .ref 65), (1, .int v1), (2, .int v2), (3, .int v3), (4, .int v4), (5, .int v5), (6, .int v6)], [.int v6, .ref 71, .int v2, .int v1, .ref 65, .int (h 72 (v6.toNatClampNeg))])) (S' := (am_sh, h, hm, g)) rfl ?_
      obtain ⟨hn7, hp⟩ := am_ix_e hp
      refine am_Rn.stepG am_h67 (c := v6 < 0 ∨ 17280 ≤ v6.toNatClampNeg) (F' := (57, [(0, .ref 65), (1, .int v1), (2, .int v2), (3, .int v3), (4, .int v4), (5, .int v5), (6, .int v6)], [.int (h 71 (v6.toNatClampNeg)), .int v2, .int v1, .ref 65, .int (h 72 (v6.toNatClampNeg))])) (S' := (am_sh, h, hm, g)) rfl hn7 ?_
      refine am_Rn.run am_h67 1 (F' := (59, [(0, .ref 65), (1, .int v1), (2, .int v2), (3, .int v3), (4, .int v4), (5, .int v5), (6, .int v6)], [.int v5, .int (h 71 (v6.toNatClampNeg)), .int v2, .int v1, .ref 65, .int (h 72 (v6.toNatClampNeg))])) (S' := (am_sh, h, hm, g)) rfl ?_
      obtain ⟨r8, h_r8, hp⟩ := am_bind hp
      refine am_Rn.call am_h67 (mj := 63) (As := [.ref 65, .int v1, .int v2, .int (h 71 (v6.toNatClampNeg)), .int v5]) (F' := (62, [(0, .ref 65), (1, .int v1), (2, .int v2), (3, .int v3), (4, .int v4), (5, .int v5), (6, .int v6)], [.int (h 72 (v6.toNatClampNeg))])) (M' := am_m63) (r := some (.int r8)) (S1 := (am_sh, h, hm, g)) rfl am_h63 rfl (ezS_priceOfSwaps (by omega) v1 v2 (h 71 (v6.toNatClampNeg)) v5 h _ h_r8) ?_
      refine am_Rn.run am_h67 2 (F' := (64, [(0, .ref 65), (1, .int v1), (2, .int v2), (3, .int v3), (4, .int v4), (5, .int v5), (6, .int v6)], [.int v3, .int ((h 72 (v6.toNatClampNeg)) + r8)])) (S' := (am_sh, h, hm, g)) rfl ?_
      refine am_Rn.ite am_h67 (c := ((h 72 (v6.toNatClampNeg)) + r8) = v3) (t := 67) (f := 70) (lv := [(0, .ref 65), (1, .int v1), (2, .int v2), (3, .int v3), (4, .int v4), (5, .int v5), (6, .int v6)]) (st := []) (S' := (am_sh, h, hm, g)) rfl hp (fun hc9 hp => ?_) (fun hc9 hp => ?_)
      · refine am_Rn.run am_h67 1 (F' := (69, [(0, .ref 65), (1, .int v1), (2, .int v2), (3, .int v3), (4, .int v4), (5, .int v5), (6, .int v6)], [.int v6])) (S' := (am_sh, h, hm, g)) rfl ?_
        cases hp
        exact am_Rn.ret am_h67 rfl
      · refine am_Rn.run am_h67 2 (F' := (26, [(6, .int (v6 + 1)), (0, .ref 65), (1, .int v1), (2, .int v2), (3, .int v3), (4, .int v4), (5, .int v5)], [])) (S' := (am_sh, h, hm, g)) rfl ?_
        refine am_Rn.sub [1, 2, 3, 4, 5, 6, 0] rfl rfl ?_
        exact ezS_firstAt_L26 hd R n v1 v2 v3 v4 v5 (v6 + 1) h hp
    · refine am_Rn.run am_h67 1 (F' := (78, [(0, .ref 65), (1, .int v1), (2, .int v2), (3, .int v3), (4, .int v4), (5, .int v5), (6, .int v6)], [.int v4])) (S' := (am_sh, h, hm, g)) rfl ?_
      cases hp
      exact am_Rn.ret am_h67 rfl
def zS_firstAt (v1 : Int32) (v2 : Int32) (v3 : Int32) (h : (Nat → Nat → Int32)) : Option (Int32) := am_b (v1 * 720) fun x1 => if 0 < v1 then ((zS_stayingBits v1 h).bind fun r3 => zS_firstAt_L26 am_N v1 v2 v3 x1 r3 x1 h) else (zS_firstAt_L26 am_N v1 v2 v3 x1 0 x1 h)
set_option maxRecDepth 20000 in
theorem ezS_firstAt {d : Nat} (hd : 2 ≤ d) (v1 : Int32) (v2 : Int32) (v3 : Int32) (h : (Nat → Nat → Int32)) (R : Int32) (hp : zS_firstAt v1 v2 v3 h = some R) : am_Ev 83 Xs am_P d 67 [.ref 65, .int v1, .int v2, .int v3] (am_sh, h, hm, g) (some (.int R), (am_sh, h, hm, g)) := by
  obtain ⟨d, rfl⟩ : ∃ k, d = k + 1 := ⟨d - 1, by omega⟩
  unfold zS_firstAt at hp
  show am_Rn 83 Xs am_P _ 67 (0, [(0, .ref 65), (1, .int v1), (2, .int v2), (3, .int v3)], []) _ _
  obtain ⟨x1, h_x1, hp⟩ := am_b_e hp
  refine am_Rn.run am_h67 5 (F' := (8, [(4, .int x1), (0, .ref 65), (1, .int v1), (2, .int v2), (3, .int v3)], [.int v1])) (S' := (am_sh, h, hm, g)) (by subst h_x1; rfl) ?_
  refine am_Rn.ite am_h67 (c := 0 < v1) (t := 11) (f := 19) (lv := [(4, .int x1), (0, .ref 65), (1, .int v1), (2, .int v2), (3, .int v3)]) (st := []) (S' := (am_sh, h, hm, g)) rfl hp (fun hc2 hp => ?_) (fun hc2 hp => ?_)
  · refine am_Rn.run am_h67 2 (F' := (13, [(4, .int x1), (0, .ref 65), (1, .int v1), (2, .int v2), (3, .int v3)], [.int v1, .ref 65])) (S' := (am_sh, h, hm, g)) rfl ?_
    obtain ⟨r3, h_r3, hp⟩ := am_bind hp
    refine am_Rn.call am_h67 (mj := 60) (As := [.ref 65, .int v1]) (F' := (16, [(4, .int x1), (0, .ref 65), (1, .int v1), (2, .int v2), (3, .int v3)], [])) (M' := am_m60) (r := some (.int r3)) (S1 := (am_sh, h, hm, g)) rfl am_h60 rfl (ezS_stayingBits (by omega) v1 h _ h_r3) ?_
    refine am_Rn.run am_h67 4 (F' := (26, [(6, .int x1), (5, .int r3), (4, .int x1), (0, .ref 65), (1, .int v1), (2, .int v2), (3, .int v3)], [])) (S' := (am_sh, h, hm, g)) rfl ?_
    refine am_Rn.sub [3, 4, 5, 6, 2, 1, 0] rfl rfl ?_
    exact ezS_firstAt_L26 hd R am_N v1 v2 v3 x1 r3 x1 h hp
  · refine am_Rn.run am_h67 4 (F' := (26, [(6, .int x1), (5, .int 0), (4, .int x1), (0, .ref 65), (1, .int v1), (2, .int v2), (3, .int v3)], [])) (S' := (am_sh, h, hm, g)) rfl ?_
    refine am_Rn.sub [3, 4, 5, 6, 2, 1, 0] rfl rfl ?_
    exact ezS_firstAt_L26 hd R am_N v1 v2 v3 x1 0 x1 h hp
/-- SixHands$Search.handsIn(II)I [65] -/
def zS_handsIn (v1 : Int32) (v2 : Int32) (h : (Nat → Nat → Int32)) : Option (Int32) := am_ix 6 v2 (am_b (zS_shiftOf v2 h) fun r2 => am_b (zH_handsOf (h 66 (v2.toNatClampNeg)) ((v1 >>> (r2 &&& 31)) &&& 7)) fun r3 => some r3)
set_option maxRecDepth 20000 in
theorem ezS_handsIn {d : Nat} (hd : 1 ≤ d) (v1 : Int32) (v2 : Int32) (h : (Nat → Nat → Int32)) (R : Int32) (hp : zS_handsIn v1 v2 h = some R) : am_Ev 83 Xs am_P d 65 [.ref 65, .int v1, .int v2] (am_sh, h, hm, g) (some (.int R), (am_sh, h, hm, g)) := by
  obtain ⟨d, rfl⟩ : ∃ k, d = k + 1 := ⟨d - 1, by omega⟩
  unfold zS_handsIn at hp
  show am_Rn 83 Xs am_P _ 65 (0, [(0, .ref 65), (1, .int v1), (2, .int v2)], []) _ _
  refine am_Rn.run am_h65 3 (F' := (5, [(0, .ref 65), (1, .int v1), (2, .int v2)], [.int v2, .ref 66])) (S' := (am_sh, h, hm, g)) rfl ?_
  obtain ⟨hn1, hp⟩ := am_ix_e hp
  refine am_Rn.stepG am_h65 (c := v2 < 0 ∨ 6 ≤ v2.toNatClampNeg) (F' := (6, [(0, .ref 65), (1, .int v1), (2, .int v2)], [.int (h 66 (v2.toNatClampNeg))])) (S' := (am_sh, h, hm, g)) rfl hn1 ?_
  refine am_Rn.run am_h65 3 (F' := (9, [(0, .ref 65), (1, .int v1), (2, .int v2)], [.int v2, .ref 65, .int v1, .int (h 66 (v2.toNatClampNeg))])) (S' := (am_sh, h, hm, g)) rfl ?_
  obtain ⟨r2, h_r2, hp⟩ := am_b_e hp
  refine am_Rn.call am_h65 (mj := 64) (As := [.ref 65, .int v2]) (F' := (12, [(0, .ref 65), (1, .int v1), (2, .int v2)], [.int v1, .int (h 66 (v2.toNatClampNeg))])) (M' := am_m64) (r := some (.int r2)) (S1 := (am_sh, h, hm, g)) rfl am_h64 rfl (by subst h_r2; exact (ezS_shiftOf (by omega) v2 h)) ?_
  refine am_Rn.run am_h65 3 (F' := (16, [(0, .ref 65), (1, .int v1), (2, .int v2)], [.int ((v1 >>> (r2 &&& 31)) &&& 7), .int (h 66 (v2.toNatClampNeg))])) (S' := (am_sh, h, hm, g)) rfl ?_
  obtain ⟨r3, h_r3, hp⟩ := am_b_e hp
  refine am_Rn.call am_h65 (mj := 145) (As := [.int (h 66 (v2.toNatClampNeg)), .int ((v1 >>> (r2 &&& 31)) &&& 7)]) (F' := (19, [(0, .ref 65), (1, .int v1), (2, .int v2)], [])) (M' := am_m145) (r := some (.int r3)) (S1 := (am_sh, h, hm, g)) rfl am_h145 rfl (by subst h_r3; exact (ezH_handsOf (by omega) (h 66 (v2.toNatClampNeg)) ((v1 >>> (r2 &&& 31)) &&& 7))) ?_
  cases hp
  exact am_Rn.ret am_h65 rfl
/-- SixHands$Search.write([II)V [65, 79] -/
def zS_write_J106 (k64 : Int32 → Int32 → Int32 → Int32 → Int32 → (Nat → Nat → Int32) → Option ((Nat → Nat → Int32))) (v2 : Int32) (v3 : Int32) (v4 : Int32) (v5 : Int32) (v7 : Int32) (v8 : Int32) (s0 : Int32) (h : (Nat → Nat → Int32)) : Option ((Nat → Nat → Int32)) := if s0 = 0 then ((zS_handsIn v3 v7 h).bind fun r15 => am_ix 1152 (v2 + v8) (am_b (va_up h 79 (upd (h 79) ((v2 + v8).toNatClampNeg) r15)) fun h17 => k64 v2 v3 v4 v5 (v7 + 1) h17)) else (am_ix 1152 (v2 + v8) (am_b (va_up h 79 (upd (h 79) ((v2 + v8).toNatClampNeg) 0)) fun h19 => k64 v2 v3 v4 v5 (v7 + 1) h19))
set_option maxRecDepth 20000 in
theorem ezS_write_J106 {d : Nat} (hd : 3 ≤ d) (R : (Nat → Nat → Int32)) (k64 : Int32 → Int32 → Int32 → Int32 → Int32 → (Nat → Nat → Int32) → Option ((Nat → Nat → Int32))) (hk64 : ∀ (v2 : Int32) (v3 : Int32) (v4 : Int32) (v5 : Int32) (v7 : Int32) (h : (Nat → Nat → Int32)), k64 v2 v3 v4 v5 v7 h = some R → am_Rn 83 Xs am_P d 66 (64, [(0, .ref 65), (1, .ref 79), (2, .int v2), (3, .int v3), (4, .int v4), (5, .int v5), (7, .int v7)], []) (am_sh, h, hm, g) (none, (am_sh, R, hm, g))) (v2 : Int32) (v3 : Int32) (v4 : Int32) (v5 : Int32) (v7 : Int32) (v8 : Int32) (s0 : Int32) (h : (Nat → Nat → Int32)) (hp : zS_write_J106 k64 v2 v3 v4 v5 v7 v8 s0 h = some R) : am_Rn 83 Xs am_P d 66 (106, [(0, .ref 65), (1, .ref 79), (2, .int v2), (3, .int v3), (4, .int v4), (5, .int v5), (7, .int v7), (8, .int v8)], [.int s0]) (am_sh, h, hm, g) (none, (am_sh, R, hm, g)) := by
  obtain ⟨d, rfl⟩ : ∃ k, d = k + 1 := ⟨d - 1, by omega⟩
  unfold zS_write_J106 at hp
  refine am_Rn.run am_h66 6 (F' := (115, [(9, .int s0), (0, .ref 65), (1, .ref 79), (2, .int v2), (3, .int v3), (4, .int v4), (5, .int v5), (7, .int v7), (8, .int v8)], [.int s0, .int (v2 + v8), .ref 79])) (S' := (am_sh, h, hm, g)) rfl ?_
  refine am_Rn.ite am_h66 (c := s0 = 0) (t := 122) (f := 118) (lv := [(9, .int s0), (0, .ref 65), (1, .ref 79), (2, .int v2), (3, .int v3), (4, .int v4), (5, .int v5), (7, .int v7), (8, .int v8)]) (st := [.int (v2 + v8), .ref 79]) (S' := (am_sh, h, hm, g)) rfl hp (fun hc14 hp => ?_) (fun hc14 hp => ?_)
  · refine am_Rn.run am_h66 3 (F' := (126, [(9, .int s0), (0, .ref 65), (1, .ref 79), (2, .int v2), (3, .int v3), (4, .int v4), (5, .int v5), (7, .int v7), (8, .int v8)], [.int v7, .int v3, .ref 65, .int (v2 + v8), .ref 79])) (S' := (am_sh, h, hm, g)) rfl ?_
    obtain ⟨r15, h_r15, hp⟩ := am_bind hp
    refine am_Rn.call am_h66 (mj := 65) (As := [.ref 65, .int v3, .int v7]) (F' := (129, [(9, .int s0), (0, .ref 65), (1, .ref 79), (2, .int v2), (3, .int v3), (4, .int v4), (5, .int v5), (7, .int v7), (8, .int v8)], [.int (v2 + v8), .ref 79])) (M' := am_m65) (r := some (.int r15)) (S1 := (am_sh, h, hm, g)) rfl am_h65 rfl (ezS_handsIn (by omega) v3 v7 h _ h_r15) ?_
    obtain ⟨hn16, hp⟩ := am_ix_e hp
    obtain ⟨h17, h_h17, hp⟩ := am_b_e hp
    refine am_Rn.stepG am_h66 (c := (v2 + v8) < 0 ∨ 1152 ≤ (v2 + v8).toNatClampNeg) (F' := (130, [(9, .int s0), (0, .ref 65), (1, .ref 79), (2, .int v2), (3, .int v3), (4, .int v4), (5, .int v5), (7, .int v7), (8, .int v8)], [])) (S' := (am_sh, h17, hm, g)) (by subst h_h17; rfl) hn16 ?_
    refine am_Rn.run am_h66 2 (F' := (64, [(7, .int (v7 + 1)), (9, .int s0), (0, .ref 65), (1, .ref 79), (2, .int v2), (3, .int v3), (4, .int v4), (5, .int v5), (8, .int v8)], [])) (S' := (am_sh, h17, hm, g)) rfl ?_
    refine am_Rn.sub [2, 3, 4, 5, 6, 7, 0] rfl rfl ?_
    exact hk64 v2 v3 v4 v5 (v7 + 1) h17 hp
  · refine am_Rn.run am_h66 2 (F' := (129, [(9, .int s0), (0, .ref 65), (1, .ref 79), (2, .int v2), (3, .int v3), (4, .int v4), (5, .int v5), (7, .int v7), (8, .int v8)], [.int 0, .int (v2 + v8), .ref 79])) (S' := (am_sh, h, hm, g)) rfl ?_
    obtain ⟨hn18, hp⟩ := am_ix_e hp
    obtain ⟨h19, h_h19, hp⟩ := am_b_e hp
    refine am_Rn.stepG am_h66 (c := (v2 + v8) < 0 ∨ 1152 ≤ (v2 + v8).toNatClampNeg) (F' := (130, [(9, .int s0), (0, .ref 65), (1, .ref 79), (2, .int v2), (3, .int v3), (4, .int v4), (5, .int v5), (7, .int v7), (8, .int v8)], [])) (S' := (am_sh, h19, hm, g)) (by subst h_h19; rfl) hn18 ?_
    refine am_Rn.run am_h66 2 (F' := (64, [(7, .int (v7 + 1)), (9, .int s0), (0, .ref 65), (1, .ref 79), (2, .int v2), (3, .int v3), (4, .int v4), (5, .int v5), (8, .int v8)], [])) (S' := (am_sh, h19, hm, g)) rfl ?_
    refine am_Rn.sub [2, 3, 4, 5, 6, 7, 0] rfl rfl ?_
    exact hk64 v2 v3 v4 v5 (v7 + 1) h19 hp
def zS_write_J101 (k64 : Int32 → Int32 → Int32 → Int32 → Int32 → (Nat → Nat → Int32) → Option ((Nat → Nat → Int32))) (v2 : Int32) (v3 : Int32) (v4 : Int32) (v5 : Int32) (v7 : Int32) (v8 : Int32) (h : (Nat → Nat → Int32)) : Option ((Nat → Nat → Int32)) := zS_write_J106 k64 v2 v3 v4 v5 v7 v8 1 h
set_option maxRecDepth 20000 in
theorem ezS_write_J101 {d : Nat} (hd : 3 ≤ d) (R : (Nat → Nat → Int32)) (k64 : Int32 → Int32 → Int32 → Int32 → Int32 → (Nat → Nat → Int32) → Option ((Nat → Nat → Int32))) (hk64 : ∀ (v2 : Int32) (v3 : Int32) (v4 : Int32) (v5 : Int32) (v7 : Int32) (h : (Nat → Nat → Int32)), k64 v2 v3 v4 v5 v7 h = some R → am_Rn 83 Xs am_P d 66 (64, [(0, .ref 65), (1, .ref 79), (2, .int v2), (3, .int v3), (4, .int v4), (5, .int v5), (7, .int v7)], []) (am_sh, h, hm, g) (none, (am_sh, R, hm, g))) (v2 : Int32) (v3 : Int32) (v4 : Int32) (v5 : Int32) (v7 : Int32) (v8 : Int32) (h : (Nat → Nat → Int32)) (hp : zS_write_J101 k64 v2 v3 v4 v5 v7 v8 h = some R) : am_Rn 83 Xs am_P d 66 (101, [(0, .ref 65), (1, .ref 79), (2, .int v2), (3, .int v3), (4, .int v4), (5, .int v5), (7, .int v7), (8, .int v8)], []) (am_sh, h, hm, g) (none, (am_sh, R, hm, g)) := by
  obtain ⟨d, rfl⟩ : ∃ k, d = k + 1 := ⟨d - 1, by omega⟩
  unfold zS_write_J101 at hp
  refine am_Rn.run am_h66 2 (F' := (106, [(0, .ref 65), (1, .ref 79), (2, .int v2), (3, .int v3), (4, .int v4), (5, .int v5), (7, .int v7), (8, .int v8)], [.int 1])) (S' := (am_sh, h, hm, g)) rfl ?_
  exact ezS_write_J106 hd R k64 hk64 v2 v3 v4 v5 v7 v8 1 h hp
def zS_write_L64 (k24 : Int32 → Int32 → Int32 → Int32 → (Nat → Nat → Int32) → Option ((Nat → Nat → Int32))) : Nat → Int32 → Int32 → Int32 → Int32 → Int32 → (Nat → Nat → Int32) → Option ((Nat → Nat → Int32))
  | 0, _, _, _, _, _, _ => none
  | n + 1, v2, v3, v4, v5, v7, h => if v7 < 6 then (am_b ((v5 * 6) + v7) fun x10 => if v7 < (h 65 2) then (am_ix 144 x10 (if (h 68 (x10.toNatClampNeg)) = (-1) then (zS_write_J101 (fun v2 v3 v4 v5 v7 h => zS_write_L64 k24 n v2 v3 v4 v5 v7 h) v2 v3 v4 v5 v7 x10 h) else (zS_write_J106 (fun v2 v3 v4 v5 v7 h => zS_write_L64 k24 n v2 v3 v4 v5 v7 h) v2 v3 v4 v5 v7 x10 0 h))) else (zS_write_J101 (fun v2 v3 v4 v5 v7 h => zS_write_L64 k24 n v2 v3 v4 v5 v7 h) v2 v3 v4 v5 v7 x10 h)) else (k24 v2 v3 v4 (v5 + 1) h)
set_option maxRecDepth 20000 in
theorem ezS_write_L64 {d : Nat} (hd : 3 ≤ d) (R : (Nat → Nat → Int32)) (k24 : Int32 → Int32 → Int32 → Int32 → (Nat → Nat → Int32) → Option ((Nat → Nat → Int32))) (hk24 : ∀ (v2 : Int32) (v3 : Int32) (v4 : Int32) (v5 : Int32) (h : (Nat → Nat → Int32)), k24 v2 v3 v4 v5 h = some R → am_Rn 83 Xs am_P d 66 (24, [(0, .ref 65), (1, .ref 79), (2, .int v2), (3, .int v3), (4, .int v4), (5, .int v5)], []) (am_sh, h, hm, g) (none, (am_sh, R, hm, g))) : ∀ (n : Nat) (v2 : Int32) (v3 : Int32) (v4 : Int32) (v5 : Int32) (v7 : Int32) (h : (Nat → Nat → Int32)), zS_write_L64 k24 n v2 v3 v4 v5 v7 h = some R → am_Rn 83 Xs am_P d 66 (64, [(0, .ref 65), (1, .ref 79), (2, .int v2), (3, .int v3), (4, .int v4), (5, .int v5), (7, .int v7)], []) (am_sh, h, hm, g) (none, (am_sh, R, hm, g))
  | 0, _, _, _, _, _, _, hp => by cases hp
  | n + 1, v2, v3, v4, v5, v7, h, hp => by
    obtain ⟨d, rfl⟩ : ∃ k, d = k + 1 := ⟨d - 1, by omega⟩
    unfold zS_write_L64 at hp
    refine am_Rn.run am_h66 2 (F' := (68, [(0, .ref 65), (1, .ref 79), (2, .int v2), (3, .int v3), (4, .int v4), (5, .int v5), (7, .int v7)], [.int 6, .int v7])) (S' := (am_sh, h, hm, g)) rfl ?_
    refine am_Rn.ite am_h66 (c := v7 < 6) (t := 71) (f := 136) (lv := [(0, .ref 65), (1, .ref 79), (2, .int v2), (3, .int v3), (4, .int v4), (5, .int v5), (7, .int v7)]) (st := []) (S' := (am_sh, h, hm, g)) rfl hp (fun hc9 hp => ?_) (fun hc9 hp => ?_)
    · obtain ⟨x10, h_x10, hp⟩ := am_b_e hp
      refine am_Rn.run am_h66 9 (F' := (87, [(8, .int x10), (0, .ref 65), (1, .ref 79), (2, .int v2), (3, .int v3), (4, .int v4), (5, .int v5), (7, .int v7)], [.int (h 65 2), .int v7])) (S' := (am_sh, h, hm, g)) (by subst h_x10; rfl) ?_
      refine am_Rn.ite am_h66 (c := v7 < (h 65 2)) (t := 90) (f := 101) (lv := [(8, .int x10), (0, .ref 65), (1, .ref 79), (2, .int v2), (3, .int v3), (4, .int v4), (5, .int v5), (7, .int v7)]) (st := []) (S' := (am_sh, h, hm, g)) rfl hp (fun hc11 hp => ?_) (fun hc11 hp => ?_)
      · refine am_Rn.run am_h66 3 (F' := (96, [(8, .int x10), (0, .ref 65), (1, .ref 79), (2, .int v2), (3, .int v3), (4, .int v4), (5, .int v5), (7, .int v7)], [.int x10, .ref 68])) (S' := (am_sh, h, hm, g)) rfl ?_
        obtain ⟨hn12, hp⟩ := am_ix_e hp
        refine am_Rn.stepG am_h66 (c := x10 < 0 ∨ 144 ≤ x10.toNatClampNeg) (F' := (97, [(8, .int x10), (0, .ref 65), (1, .ref 79), (2, .int v2), (3, .int v3), (4, .int v4), (5, .int v5), (7, .int v7)], [.int (h 68 (x10.toNatClampNeg))])) (S' := (am_sh, h, hm, g)) rfl hn12 ?_
        refine am_Rn.run am_h66 1 (F' := (98, [(8, .int x10), (0, .ref 65), (1, .ref 79), (2, .int v2), (3, .int v3), (4, .int v4), (5, .int v5), (7, .int v7)], [.int (-1), .int (h 68 (x10.toNatClampNeg))])) (S' := (am_sh, h, hm, g)) rfl ?_
        refine am_Rn.ite am_h66 (c := (h 68 (x10.toNatClampNeg)) = (-1)) (t := 101) (f := 105) (lv := [(8, .int x10), (0, .ref 65), (1, .ref 79), (2, .int v2), (3, .int v3), (4, .int v4), (5, .int v5), (7, .int v7)]) (st := []) (S' := (am_sh, h, hm, g)) rfl hp (fun hc13 hp => ?_) (fun hc13 hp => ?_)
        · refine am_Rn.sub [1, 2, 3, 4, 5, 6, 7, 0] rfl rfl ?_
          exact ezS_write_J101 hd R (fun v2 v3 v4 v5 v7 h => zS_write_L64 k24 n v2 v3 v4 v5 v7 h) (fun v2 v3 v4 v5 v7 h hp => ezS_write_L64 hd R k24 hk24 n v2 v3 v4 v5 v7 h hp) v2 v3 v4 v5 v7 x10 h hp
        · refine am_Rn.run am_h66 1 (F' := (106, [(8, .int x10), (0, .ref 65), (1, .ref 79), (2, .int v2), (3, .int v3), (4, .int v4), (5, .int v5), (7, .int v7)], [.int 0])) (S' := (am_sh, h, hm, g)) rfl ?_
          refine am_Rn.sub [1, 2, 3, 4, 5, 6, 7, 0] rfl rfl ?_
          exact ezS_write_J106 hd R (fun v2 v3 v4 v5 v7 h => zS_write_L64 k24 n v2 v3 v4 v5 v7 h) (fun v2 v3 v4 v5 v7 h hp => ezS_write_L64 hd R k24 hk24 n v2 v3 v4 v5 v7 h hp) v2 v3 v4 v5 v7 x10 0 h hp
      · refine am_Rn.sub [1, 2, 3, 4, 5, 6, 7, 0] rfl rfl ?_
        exact ezS_write_J101 hd R (fun v2 v3 v4 v5 v7 h => zS_write_L64 k24 n v2 v3 v4 v5 v7 h) (fun v2 v3 v4 v5 v7 h hp => ezS_write_L64 hd R k24 hk24 n v2 v3 v4 v5 v7 h hp) v2 v3 v4 v5 v7 x10 h hp
    · refine am_Rn.run am_h66 2 (F' := (24, [(5, .int (v5 + 1)), (0, .ref 65), (1, .ref 79), (2, .int v2), (3, .int v3), (4, .int v4), (7, .int v7)], [])) (S' := (am_sh, h, hm, g)) rfl ?_
      refine am_Rn.sub [1, 2, 3, 4, 5, 0] rfl rfl ?_
      exact hk24 v2 v3 v4 (v5 + 1) h hp
def zS_write_L24 : Nat → Int32 → Int32 → Int32 → Int32 → (Nat → Nat → Int32) → Option ((Nat → Nat → Int32))
  | 0, _, _, _, _, _ => none
  | n + 1, v2, v3, v4, v5, h => if v5 < (h 65 1) then ((zS_firstAt v5 v3 v4 h).bind fun r4 => am_ix 17280 r4 (am_b (h 71 (r4.toNatClampNeg)) fun x6 => am_ix 17280 r4 (am_b (h 72 (r4.toNatClampNeg)) fun x8 => zS_write_L64 (fun v2 v3 v4 v5 h => zS_write_L24 n v2 v3 v4 v5 h) am_N v2 x6 x8 v5 0 h))) else (some h)
set_option maxRecDepth 20000 in
theorem ezS_write_L24 {d : Nat} (hd : 3 ≤ d) (R : (Nat → Nat → Int32)) : ∀ (n : Nat) (v2 : Int32) (v3 : Int32) (v4 : Int32) (v5 : Int32) (h : (Nat → Nat → Int32)), zS_write_L24 n v2 v3 v4 v5 h = some R → am_Rn 83 Xs am_P d 66 (24, [(0, .ref 65), (1, .ref 79), (2, .int v2), (3, .int v3), (4, .int v4), (5, .int v5)], []) (am_sh, h, hm, g) (none, (am_sh, R, hm, g))
  | 0, _, _, _, _, _, hp => by cases hp
  | n + 1, v2, v3, v4, v5, h, hp => by
    obtain ⟨d, rfl⟩ : ∃ k, d = k + 1 := ⟨d - 1, by omega⟩
    unfold zS_write_L24 at hp
    refine am_Rn.run am_h66 3 (F' := (30, [(0, .ref 65), (1, .ref 79), (2, .int v2), (3, .int v3), (4, .int v4), (5, .int v5)], [.int (h 65 1), .int v5])) (S' := (am_sh, h, hm, g)) rfl ?_
    refine am_Rn.ite am_h66 (c := v5 < (h 65 1)) (t := 33) (f := 142) (lv := [(0, .ref 65), (1, .ref 79), (2, .int v2), (3, .int v3), (4, .int v4), (5, .int v5)]) (st := []) (S' := (am_sh, h, hm, g)) rfl hp (fun hc3 hp => ?_) (fun hc3 hp => ?_)
    · refine am_Rn.run am_h66 4 (F' := (39, [(0, .ref 65), (1, .ref 79), (2, .int v2), (3, .int v3), (4, .int v4), (5, .int v5)], [.int v4, .int v3, .int v5, .ref 65])) (S' := (am_sh, h, hm, g)) rfl ?_
      obtain ⟨r4, h_r4, hp⟩ := am_bind hp
      refine am_Rn.call am_h66 (mj := 67) (As := [.ref 65, .int v5, .int v3, .int v4]) (F' := (42, [(0, .ref 65), (1, .ref 79), (2, .int v2), (3, .int v3), (4, .int v4), (5, .int v5)], [])) (M' := am_m67) (r := some (.int r4)) (S1 := (am_sh, h, hm, g)) rfl am_h67 rfl (ezS_firstAt (by omega) v5 v3 v4 h _ h_r4) ?_
      refine am_Rn.run am_h66 4 (F' := (50, [(6, .int r4), (0, .ref 65), (1, .ref 79), (2, .int v2), (3, .int v3), (4, .int v4), (5, .int v5)], [.int r4, .ref 71])) (S' := (am_sh, h, hm, g)) rfl ?_
      obtain ⟨hn5, hp⟩ := am_ix_e hp
      refine am_Rn.stepG am_h66 (c := r4 < 0 ∨ 17280 ≤ r4.toNatClampNeg) (F' := (51, [(6, .int r4), (0, .ref 65), (1, .ref 79), (2, .int v2), (3, .int v3), (4, .int v4), (5, .int v5)], [.int (h 71 (r4.toNatClampNeg))])) (S' := (am_sh, h, hm, g)) rfl hn5 ?_
      obtain ⟨x6, h_x6, hp⟩ := am_b_e hp
      refine am_Rn.run am_h66 4 (F' := (58, [(3, .int x6), (6, .int r4), (0, .ref 65), (1, .ref 79), (2, .int v2), (4, .int v4), (5, .int v5)], [.int r4, .ref 72])) (S' := (am_sh, h, hm, g)) (by subst h_x6; rfl) ?_
      obtain ⟨hn7, hp⟩ := am_ix_e hp
      refine am_Rn.stepG am_h66 (c := r4 < 0 ∨ 17280 ≤ r4.toNatClampNeg) (F' := (59, [(3, .int x6), (6, .int r4), (0, .ref 65), (1, .ref 79), (2, .int v2), (4, .int v4), (5, .int v5)], [.int (h 72 (r4.toNatClampNeg))])) (S' := (am_sh, h, hm, g)) rfl hn7 ?_
      obtain ⟨x8, h_x8, hp⟩ := am_b_e hp
      refine am_Rn.run am_h66 3 (F' := (64, [(7, .int 0), (4, .int x8), (3, .int x6), (6, .int r4), (0, .ref 65), (1, .ref 79), (2, .int v2), (5, .int v5)], [])) (S' := (am_sh, h, hm, g)) (by subst h_x8; rfl) ?_
      refine am_Rn.sub [4, 5, 6, 2, 1, 7, 0] rfl rfl ?_
      exact ezS_write_L64 hd R (fun v2 v3 v4 v5 h => zS_write_L24 n v2 v3 v4 v5 h) (fun v2 v3 v4 v5 h hp => ezS_write_L24 hd R n v2 v3 v4 v5 h hp) am_N v2 x6 x8 v5 0 h hp
    · cases hp
      exact am_Rn.ret am_h66 rfl
def zS_write (v2 : Int32) (h : (Nat → Nat → Int32)) : Option ((Nat → Nat → Int32)) := if 0 < (h 65 1) then (am_b (h 74 0) fun x2 => zS_write_L24 am_N v2 0 x2 0 h) else (zS_write_L24 am_N v2 0 0 0 h)
set_option maxRecDepth 20000 in
theorem ezS_write {d : Nat} (hd : 3 ≤ d) (v2 : Int32) (h : (Nat → Nat → Int32)) (R : (Nat → Nat → Int32)) (hp : zS_write v2 h = some R) : am_Ev 83 Xs am_P d 66 [.ref 65, .ref 79, .int v2] (am_sh, h, hm, g) (none, (am_sh, R, hm, g)) := by
  obtain ⟨d, rfl⟩ : ∃ k, d = k + 1 := ⟨d - 1, by omega⟩
  unfold zS_write at hp
  show am_Rn 83 Xs am_P _ 66 (0, [(0, .ref 65), (1, .ref 79), (2, .int v2)], []) _ _
  refine am_Rn.run am_h66 4 (F' := (6, [(3, .int 0), (0, .ref 65), (1, .ref 79), (2, .int v2)], [.int (h 65 1)])) (S' := (am_sh, h, hm, g)) rfl ?_
  refine am_Rn.ite am_h66 (c := 0 < (h 65 1)) (t := 9) (f := 18) (lv := [(3, .int 0), (0, .ref 65), (1, .ref 79), (2, .int v2)]) (st := []) (S' := (am_sh, h, hm, g)) rfl hp (fun hc1 hp => ?_) (fun hc1 hp => ?_)
  · obtain ⟨x2, h_x2, hp⟩ := am_b_e hp
    refine am_Rn.run am_h66 8 (F' := (24, [(5, .int 0), (4, .int x2), (3, .int 0), (0, .ref 65), (1, .ref 79), (2, .int v2)], [])) (S' := (am_sh, h, hm, g)) (by subst h_x2; rfl) ?_
    refine am_Rn.sub [3, 4, 5, 2, 1, 0] rfl rfl ?_
    exact ezS_write_L24 hd R am_N v2 0 x2 0 h hp
  · refine am_Rn.run am_h66 4 (F' := (24, [(5, .int 0), (4, .int 0), (3, .int 0), (0, .ref 65), (1, .ref 79), (2, .int v2)], [])) (S' := (am_sh, h, hm, g)) rfl ?_
    refine am_Rn.sub [3, 4, 5, 2, 1, 0] rfl rfl ?_
    exact ezS_write_L24 hd R am_N v2 0 0 0 h hp
/-- SixHands.fewest(I)I [0] -/
def zH_fewest_J100 (v1 : Int32) (v2 : Int32) (s1 : Int32) (s2 : Int32) (h : (Nat → Nat → Int32)) : Option (Int32 × (Nat → Nat → Int32)) := am_ix 8 s1 (am_b (va_up h 78 (upd (h 78) (s1.toNatClampNeg) s2)) fun h14 => if v2 < 1000000 then ((zS_write (v1 * 144) h14).bind fun r16 => am_ix 8 v1 (some ((r16 78 (v1.toNatClampNeg), r16)))) else (am_ix 8 v1 (some ((h14 78 (v1.toNatClampNeg), h14)))))
set_option maxRecDepth 20000 in
theorem ezH_fewest_J100 {d : Nat} (hd : 12 ≤ d) (R : Int32 × (Nat → Nat → Int32)) (v1 : Int32) (v2 : Int32) (s1 : Int32) (s2 : Int32) (h : (Nat → Nat → Int32)) (hp : zH_fewest_J100 v1 v2 s1 s2 h = some R) : am_Rn 83 Xs am_P d 124 (100, [(0, .ref 0), (1, .int v1), (2, .int v2)], [.int s2, .int s1, .ref 78]) (am_sh, h, hm, g) (some (.int R.1), (am_sh, R.2, hm, g)) := by
  obtain ⟨d, rfl⟩ : ∃ k, d = k + 1 := ⟨d - 1, by omega⟩
  unfold zH_fewest_J100 at hp
  obtain ⟨hn13, hp⟩ := am_ix_e hp
  obtain ⟨h14, h_h14, hp⟩ := am_b_e hp
  refine am_Rn.stepG am_h124 (c := s1 < 0 ∨ 8 ≤ s1.toNatClampNeg) (F' := (101, [(0, .ref 0), (1, .int v1), (2, .int v2)], [])) (S' := (am_sh, h14, hm, g)) (by subst h_h14; rfl) hn13 ?_
  refine am_Rn.run am_h124 2 (F' := (104, [(0, .ref 0), (1, .int v1), (2, .int v2)], [.int 1000000, .int v2])) (S' := (am_sh, h14, hm, g)) rfl ?_
  refine am_Rn.ite am_h124 (c := v2 < 1000000) (t := 107) (f := 126) (lv := [(0, .ref 0), (1, .int v1), (2, .int v2)]) (st := []) (S' := (am_sh, h14, hm, g)) rfl hp (fun hc15 hp => ?_) (fun hc15 hp => ?_)
  · refine am_Rn.run am_h124 8 (F' := (123, [(0, .ref 0), (1, .int v1), (2, .int v2)], [.int (v1 * 144), .ref 79, .ref 65])) (S' := (am_sh, h14, hm, g)) rfl ?_
    obtain ⟨r16, h_r16, hp⟩ := am_bind hp
    refine am_Rn.call am_h124 (mj := 66) (As := [.ref 65, .ref 79, .int (v1 * 144)]) (F' := (126, [(0, .ref 0), (1, .int v1), (2, .int v2)], [])) (M' := am_m66) (r := none) (S1 := (am_sh, r16, hm, g)) rfl am_h66 rfl (ezS_write (by omega) (v1 * 144) h14 _ h_r16) ?_
    refine am_Rn.run am_h124 4 (F' := (134, [(0, .ref 0), (1, .int v1), (2, .int v2)], [.int v1, .ref 78])) (S' := (am_sh, r16, hm, g)) rfl ?_
    obtain ⟨hn17, hp⟩ := am_ix_e hp
    refine am_Rn.stepG am_h124 (c := v1 < 0 ∨ 8 ≤ v1.toNatClampNeg) (F' := (135, [(0, .ref 0), (1, .int v1), (2, .int v2)], [.int (r16 78 (v1.toNatClampNeg))])) (S' := (am_sh, r16, hm, g)) rfl hn17 ?_
    cases hp
    exact am_Rn.ret am_h124 rfl
  · refine am_Rn.run am_h124 4 (F' := (134, [(0, .ref 0), (1, .int v1), (2, .int v2)], [.int v1, .ref 78])) (S' := (am_sh, h14, hm, g)) rfl ?_
    obtain ⟨hn18, hp⟩ := am_ix_e hp
    refine am_Rn.stepG am_h124 (c := v1 < 0 ∨ 8 ≤ v1.toNatClampNeg) (F' := (135, [(0, .ref 0), (1, .int v1), (2, .int v2)], [.int (h14 78 (v1.toNatClampNeg))])) (S' := (am_sh, h14, hm, g)) rfl hn18 ?_
    cases hp
    exact am_Rn.ret am_h124 rfl
def zH_fewest (v1 : Int32) (h : (Nat → Nat → Int32)) : Option (Int32 × (Nat → Nat → Int32)) := am_b (zH_isSet v1 h) fun r1 => if r1 = 0 then (some (((-1), h))) else (am_ix 8 v1 (if (h 77 (v1.toNatClampNeg)) = 0 then ((zH_ruling h).bind fun r5 => (zL_learn r5 h).bind fun r6 => (zS_load v1 0 r6).bind fun r7 => am_b (va_up r7 65 (upd (r7 65) 0 1)) fun h8 => (zS_run 0 h8).bind fun r9 => am_ix 8 v1 (am_b (va_up r9.2 77 (upd (r9.2 77) (v1.toNatClampNeg) (1 : Int32))) fun h11 => if r9.1 < 1000000 then (zH_fewest_J100 v1 r9.1 v1 r9.1 h11) else (zH_fewest_J100 v1 r9.1 v1 (-1) h11))) else (am_ix 8 v1 (some ((h 78 (v1.toNatClampNeg), h))))))
set_option maxRecDepth 20000 in
theorem ezH_fewest {d : Nat} (hd : 12 ≤ d) (v1 : Int32) (h : (Nat → Nat → Int32)) (R : Int32 × (Nat → Nat → Int32)) (hp : zH_fewest v1 h = some R) : am_Ev 83 Xs am_P d 124 [.ref 0, .int v1] (am_sh, h, hm, g) (some (.int R.1), (am_sh, R.2, hm, g)) := by
  obtain ⟨d, rfl⟩ : ∃ k, d = k + 1 := ⟨d - 1, by omega⟩
  unfold zH_fewest at hp
  show am_Rn 83 Xs am_P _ 124 (0, [(0, .ref 0), (1, .int v1)], []) _ _
  refine am_Rn.run am_h124 2 (F' := (2, [(0, .ref 0), (1, .int v1)], [.int v1, .ref 0])) (S' := (am_sh, h, hm, g)) rfl ?_
  obtain ⟨r1, h_r1, hp⟩ := am_b_e hp
  refine am_Rn.call am_h124 (mj := 138) (As := [.ref 0, .int v1]) (F' := (5, [(0, .ref 0), (1, .int v1)], [])) (M' := am_m138) (r := some (.int r1)) (S1 := (am_sh, h, hm, g)) rfl am_h138 rfl (by subst h_r1; exact (ezH_isSet (by omega) v1 h)) ?_
  refine am_Rn.ite am_h124 (c := r1 = 0) (t := 8) (f := 10) (lv := [(0, .ref 0), (1, .int v1)]) (st := []) (S' := (am_sh, h, hm, g)) rfl hp (fun hc2 hp => ?_) (fun hc2 hp => ?_)
  · refine am_Rn.run am_h124 1 (F' := (9, [(0, .ref 0), (1, .int v1)], [.int (-1)])) (S' := (am_sh, h, hm, g)) rfl ?_
    cases hp
    exact am_Rn.ret am_h124 rfl
  · refine am_Rn.run am_h124 4 (F' := (18, [(0, .ref 0), (1, .int v1)], [.int v1, .ref 77])) (S' := (am_sh, h, hm, g)) rfl ?_
    obtain ⟨hn3, hp⟩ := am_ix_e hp
    refine am_Rn.stepG am_h124 (c := v1 < 0 ∨ 8 ≤ v1.toNatClampNeg) (F' := (19, [(0, .ref 0), (1, .int v1)], [.int (h 77 (v1.toNatClampNeg))])) (S' := (am_sh, h, hm, g)) rfl hn3 ?_
    refine am_Rn.ite am_h124 (c := (h 77 (v1.toNatClampNeg)) = 0) (t := 22) (f := 126) (lv := [(0, .ref 0), (1, .int v1)]) (st := []) (S' := (am_sh, h, hm, g)) rfl hp (fun hc4 hp => ?_) (fun hc4 hp => ?_)
    · refine am_Rn.run am_h124 5 (F' := (31, [(0, .ref 0), (1, .int v1)], [.ref 0, .ref 1, .ref 59])) (S' := (am_sh, h, hm, g)) rfl ?_
      obtain ⟨r5, h_r5, hp⟩ := am_bind hp
      refine am_Rn.call am_h124 (mj := 140) (As := [.ref 0]) (F' := (34, [(0, .ref 0), (1, .int v1)], [.ref 1, .ref 59])) (M' := am_m140) (r := some (.ref r5)) (S1 := (am_sh, h, hm, g)) rfl am_h140 rfl (ezH_ruling (by omega) h _ h_r5) ?_
      have hk_r5 := zH_ruling_k h_r5
      obtain ⟨r6, h_r6, hp⟩ := am_bind hp
      refine am_Rn.call am_h124 (mj := 23) (As := [.ref 59, .ref 1, .ref r5]) (F' := (37, [(0, .ref 0), (1, .int v1)], [])) (M' := am_m23) (r := none) (S1 := (am_sh, r6, hm, g)) (by rcases hk_r5 with rfl | rfl | rfl | rfl | rfl <;> rfl) am_h23 rfl (ezL_learn (by omega) r5 h _ hk_r5 h_r6) ?_
      refine am_Rn.run am_h124 8 (F' := (51, [(0, .ref 0), (1, .int v1)], [.int 0, .int v1, .ref 59, .ref 1, .ref 65])) (S' := (am_sh, r6, hm, g)) (by rcases hk_r5 with rfl | rfl | rfl | rfl | rfl <;> rfl) ?_
      obtain ⟨r7, h_r7, hp⟩ := am_bind hp
      refine am_Rn.call am_h124 (mj := 51) (As := [.ref 65, .ref 1, .ref 59, .int v1, .int 0]) (F' := (54, [(0, .ref 0), (1, .int v1)], [])) (M' := am_m51) (r := none) (S1 := (am_sh, r7, hm, g)) (by rcases hk_r5 with rfl | rfl | rfl | rfl | rfl <;> rfl) am_h51 rfl (ezS_load (by omega) v1 0 r6 _ h_r7) ?_
      obtain ⟨h8, h_h8, hp⟩ := am_b_e hp
      refine am_Rn.run am_h124 7 (F' := (67, [(0, .ref 0), (1, .int v1)], [.int 0, .ref 65])) (S' := (am_sh, h8, hm, g)) (by subst h_h8; rcases hk_r5 with rfl | rfl | rfl | rfl | rfl <;> rfl) ?_
      obtain ⟨r9, h_r9, hp⟩ := am_bind hp
      refine am_Rn.call am_h124 (mj := 52) (As := [.ref 65, .int 0]) (F' := (70, [(0, .ref 0), (1, .int v1)], [])) (M' := am_m52) (r := some (.int r9.1)) (S1 := (am_sh, r9.2, hm, g)) (by rcases hk_r5 with rfl | rfl | rfl | rfl | rfl <;> rfl) am_h52 rfl (ezS_run (by omega) 0 h8 _ h_r9) ?_
      refine am_Rn.run am_h124 6 (F' := (80, [(2, .int r9.1), (0, .ref 0), (1, .int v1)], [.int 1, .int v1, .ref 77])) (S' := (am_sh, r9.2, hm, g)) (by rcases hk_r5 with rfl | rfl | rfl | rfl | rfl <;> rfl) ?_
      obtain ⟨hn10, hp⟩ := am_ix_e hp
      obtain ⟨h11, h_h11, hp⟩ := am_b_e hp
      refine am_Rn.stepG am_h124 (c := v1 < 0 ∨ 8 ≤ v1.toNatClampNeg) (F' := (81, [(2, .int r9.1), (0, .ref 0), (1, .int v1)], [])) (S' := (am_sh, h11, hm, g)) (by subst h_h11; rcases hk_r5 with rfl | rfl | rfl | rfl | rfl <;> rfl) hn10 ?_
      refine am_Rn.run am_h124 6 (F' := (92, [(2, .int r9.1), (0, .ref 0), (1, .int v1)], [.int 1000000, .int r9.1, .int v1, .ref 78])) (S' := (am_sh, h11, hm, g)) (by rcases hk_r5 with rfl | rfl | rfl | rfl | rfl <;> rfl) ?_
      refine am_Rn.ite am_h124 (c := r9.1 < 1000000) (t := 95) (f := 99) (lv := [(2, .int r9.1), (0, .ref 0), (1, .int v1)]) (st := [.int v1, .ref 78]) (S' := (am_sh, h11, hm, g)) (by rcases hk_r5 with rfl | rfl | rfl | rfl | rfl <;> rfl) hp (fun hc12 hp => ?_) (fun hc12 hp => ?_)
      · refine am_Rn.run am_h124 2 (F' := (100, [(2, .int r9.1), (0, .ref 0), (1, .int v1)], [.int r9.1, .int v1, .ref 78])) (S' := (am_sh, h11, hm, g)) (by rcases hk_r5 with rfl | rfl | rfl | rfl | rfl <;> rfl) ?_
        refine am_Rn.sub [1, 2, 0] rfl rfl ?_
        exact ezH_fewest_J100 hd R v1 r9.1 v1 r9.1 h11 hp
      · refine am_Rn.run am_h124 1 (F' := (100, [(2, .int r9.1), (0, .ref 0), (1, .int v1)], [.int (-1), .int v1, .ref 78])) (S' := (am_sh, h11, hm, g)) (by rcases hk_r5 with rfl | rfl | rfl | rfl | rfl <;> rfl) ?_
        refine am_Rn.sub [1, 2, 0] rfl rfl ?_
        exact ezH_fewest_J100 hd R v1 r9.1 v1 (-1) h11 hp
    · refine am_Rn.run am_h124 4 (F' := (134, [(0, .ref 0), (1, .int v1)], [.int v1, .ref 78])) (S' := (am_sh, h, hm, g)) rfl ?_
      obtain ⟨hn19, hp⟩ := am_ix_e hp
      refine am_Rn.stepG am_h124 (c := v1 < 0 ∨ 8 ≤ v1.toNatClampNeg) (F' := (135, [(0, .ref 0), (1, .int v1)], [.int (h 78 (v1.toNatClampNeg))])) (S' := (am_sh, h, hm, g)) rfl hn19 ?_
      cases hp
      exact am_Rn.ret am_h124 rfl
/-- SixHands.found(III)I [0] -/
def zH_found (v1 : Int32) (v2 : Int32) (v3 : Int32) (h : (Nat → Nat → Int32)) : Option (Int32 × (Nat → Nat → Int32)) := am_b (zH_isBeat v2 h) fun r1 => if r1 = 0 then (some (((-1), h))) else (am_b (zH_isFigure v3 h) fun r3 => if r3 = 0 then (some (((-1), h))) else ((zH_fewest v1 h).bind fun r5 => if r5.1 = (-1) then (some (((-1), r5.2))) else (am_ix 1152 (((v1 * 144) + (v2 * 6)) + v3) (some ((r5.2 79 ((((v1 * 144) + (v2 * 6)) + v3).toNatClampNeg), r5.2))))))
set_option maxRecDepth 20000 in
theorem ezH_found {d : Nat} (hd : 13 ≤ d) (v1 : Int32) (v2 : Int32) (v3 : Int32) (h : (Nat → Nat → Int32)) (R : Int32 × (Nat → Nat → Int32)) (hp : zH_found v1 v2 v3 h = some R) : am_Ev 83 Xs am_P d 125 [.ref 0, .int v1, .int v2, .int v3] (am_sh, h, hm, g) (some (.int R.1), (am_sh, R.2, hm, g)) := by
  obtain ⟨d, rfl⟩ : ∃ k, d = k + 1 := ⟨d - 1, by omega⟩
  unfold zH_found at hp
  show am_Rn 83 Xs am_P _ 125 (0, [(0, .ref 0), (1, .int v1), (2, .int v2), (3, .int v3)], []) _ _
  refine am_Rn.run am_h125 2 (F' := (2, [(0, .ref 0), (1, .int v1), (2, .int v2), (3, .int v3)], [.int v2, .ref 0])) (S' := (am_sh, h, hm, g)) rfl ?_
  obtain ⟨r1, h_r1, hp⟩ := am_b_e hp
  refine am_Rn.call am_h125 (mj := 135) (As := [.ref 0, .int v2]) (F' := (5, [(0, .ref 0), (1, .int v1), (2, .int v2), (3, .int v3)], [])) (M' := am_m135) (r := some (.int r1)) (S1 := (am_sh, h, hm, g)) rfl am_h135 rfl (by subst h_r1; exact (ezH_isBeat (by omega) v2 h)) ?_
  refine am_Rn.ite am_h125 (c := r1 = 0) (t := 25) (f := 8) (lv := [(0, .ref 0), (1, .int v1), (2, .int v2), (3, .int v3)]) (st := []) (S' := (am_sh, h, hm, g)) rfl hp (fun hc2 hp => ?_) (fun hc2 hp => ?_)
  · refine am_Rn.run am_h125 1 (F' := (26, [(0, .ref 0), (1, .int v1), (2, .int v2), (3, .int v3)], [.int (-1)])) (S' := (am_sh, h, hm, g)) rfl ?_
    cases hp
    exact am_Rn.ret am_h125 rfl
  · refine am_Rn.run am_h125 2 (F' := (10, [(0, .ref 0), (1, .int v1), (2, .int v2), (3, .int v3)], [.int v3, .ref 0])) (S' := (am_sh, h, hm, g)) rfl ?_
    obtain ⟨r3, h_r3, hp⟩ := am_b_e hp
    refine am_Rn.call am_h125 (mj := 136) (As := [.ref 0, .int v3]) (F' := (13, [(0, .ref 0), (1, .int v1), (2, .int v2), (3, .int v3)], [])) (M' := am_m136) (r := some (.int r3)) (S1 := (am_sh, h, hm, g)) rfl am_h136 rfl (by subst h_r3; exact (ezH_isFigure (by omega) v3 h)) ?_
    refine am_Rn.ite am_h125 (c := r3 = 0) (t := 25) (f := 16) (lv := [(0, .ref 0), (1, .int v1), (2, .int v2), (3, .int v3)]) (st := []) (S' := (am_sh, h, hm, g)) rfl hp (fun hc4 hp => ?_) (fun hc4 hp => ?_)
    · refine am_Rn.run am_h125 1 (F' := (26, [(0, .ref 0), (1, .int v1), (2, .int v2), (3, .int v3)], [.int (-1)])) (S' := (am_sh, h, hm, g)) rfl ?_
      cases hp
      exact am_Rn.ret am_h125 rfl
    · refine am_Rn.run am_h125 2 (F' := (18, [(0, .ref 0), (1, .int v1), (2, .int v2), (3, .int v3)], [.int v1, .ref 0])) (S' := (am_sh, h, hm, g)) rfl ?_
      obtain ⟨r5, h_r5, hp⟩ := am_bind hp
      refine am_Rn.call am_h125 (mj := 124) (As := [.ref 0, .int v1]) (F' := (21, [(0, .ref 0), (1, .int v1), (2, .int v2), (3, .int v3)], [])) (M' := am_m124) (r := some (.int r5.1)) (S1 := (am_sh, r5.2, hm, g)) rfl am_h124 rfl (ezH_fewest (by omega) v1 h _ h_r5) ?_
      refine am_Rn.run am_h125 1 (F' := (22, [(0, .ref 0), (1, .int v1), (2, .int v2), (3, .int v3)], [.int (-1), .int r5.1])) (S' := (am_sh, r5.2, hm, g)) rfl ?_
      refine am_Rn.ite am_h125 (c := r5.1 = (-1)) (t := 25) (f := 27) (lv := [(0, .ref 0), (1, .int v1), (2, .int v2), (3, .int v3)]) (st := []) (S' := (am_sh, r5.2, hm, g)) rfl hp (fun hc6 hp => ?_) (fun hc6 hp => ?_)
      · refine am_Rn.run am_h125 1 (F' := (26, [(0, .ref 0), (1, .int v1), (2, .int v2), (3, .int v3)], [.int (-1)])) (S' := (am_sh, r5.2, hm, g)) rfl ?_
        cases hp
        exact am_Rn.ret am_h125 rfl
      · refine am_Rn.run am_h125 12 (F' := (46, [(0, .ref 0), (1, .int v1), (2, .int v2), (3, .int v3)], [.int (((v1 * 144) + (v2 * 6)) + v3), .ref 79])) (S' := (am_sh, r5.2, hm, g)) rfl ?_
        obtain ⟨hn7, hp⟩ := am_ix_e hp
        refine am_Rn.stepG am_h125 (c := (((v1 * 144) + (v2 * 6)) + v3) < 0 ∨ 1152 ≤ (((v1 * 144) + (v2 * 6)) + v3).toNatClampNeg) (F' := (47, [(0, .ref 0), (1, .int v1), (2, .int v2), (3, .int v3)], [.int (r5.2 79 ((((v1 * 144) + (v2 * 6)) + v3).toNatClampNeg))])) (S' := (am_sh, r5.2, hm, g)) rfl hn7 ?_
        cases hp
        exact am_Rn.ret am_h125 rfl
/-- SixHands.take(I)I [0] -/
def zH_take (v1 : Int32) (h : (Nat → Nat → Int32)) : Option (Int32 × (Nat → Nat → Int32)) := (zH_fewest v1 h).bind fun r1 => if r1.1 = (-1) then (some ((r1.1, r1.2))) else (am_no (((v1 * 144) < 0 ∨ (0 : Int32) < 0) ∨ (((r1.2 1 13) * 6) < 0 ∨ 1152 < (v1 * 144).toNatClampNeg + ((r1.2 1 13) * 6).toNatClampNeg) ∨ 144 < 0 + ((r1.2 1 13) * 6).toNatClampNeg) (am_b (va_up r1.2 9 (va_cpy (r1.2 79) (r1.2 9) ((v1 * 144).toNatClampNeg) 0 (((r1.2 1 13) * 6).toNatClampNeg))) fun h4 => some ((r1.1, h4))))
set_option maxRecDepth 20000 in
theorem ezH_take {d : Nat} (hd : 13 ≤ d) (v1 : Int32) (h : (Nat → Nat → Int32)) (R : Int32 × (Nat → Nat → Int32)) (hp : zH_take v1 h = some R) : am_Ev 83 Xs am_P d 126 [.ref 0, .int v1] (am_sh, h, hm, g) (some (.int R.1), (am_sh, R.2, hm, g)) := by
  obtain ⟨d, rfl⟩ : ∃ k, d = k + 1 := ⟨d - 1, by omega⟩
  unfold zH_take at hp
  show am_Rn 83 Xs am_P _ 126 (0, [(0, .ref 0), (1, .int v1)], []) _ _
  refine am_Rn.run am_h126 2 (F' := (2, [(0, .ref 0), (1, .int v1)], [.int v1, .ref 0])) (S' := (am_sh, h, hm, g)) rfl ?_
  obtain ⟨r1, h_r1, hp⟩ := am_bind hp
  refine am_Rn.call am_h126 (mj := 124) (As := [.ref 0, .int v1]) (F' := (5, [(0, .ref 0), (1, .int v1)], [])) (M' := am_m124) (r := some (.int r1.1)) (S1 := (am_sh, r1.2, hm, g)) rfl am_h124 rfl (ezH_fewest (by omega) v1 h _ h_r1) ?_
  refine am_Rn.run am_h126 3 (F' := (8, [(2, .int r1.1), (0, .ref 0), (1, .int v1)], [.int (-1), .int r1.1])) (S' := (am_sh, r1.2, hm, g)) rfl ?_
  refine am_Rn.ite am_h126 (c := r1.1 = (-1)) (t := 44) (f := 11) (lv := [(2, .int r1.1), (0, .ref 0), (1, .int v1)]) (st := []) (S' := (am_sh, r1.2, hm, g)) rfl hp (fun hc2 hp => ?_) (fun hc2 hp => ?_)
  · refine am_Rn.run am_h126 1 (F' := (45, [(2, .int r1.1), (0, .ref 0), (1, .int v1)], [.int r1.1])) (S' := (am_sh, r1.2, hm, g)) rfl ?_
    cases hp
    exact am_Rn.ret am_h126 rfl
  · refine am_Rn.run am_h126 15 (F' := (41, [(2, .int r1.1), (0, .ref 0), (1, .int v1)], [.int ((r1.2 1 13) * 6), .int 0, .ref 9, .int (v1 * 144), .ref 79])) (S' := (am_sh, r1.2, hm, g)) rfl ?_
    obtain ⟨hn3, hp⟩ := am_no_e hp
    obtain ⟨h4, h_h4, hp⟩ := am_b_e hp
    refine am_Rn.stepG am_h126 (c := ((v1 * 144) < 0 ∨ (0 : Int32) < 0) ∨ (((r1.2 1 13) * 6) < 0 ∨ 1152 < (v1 * 144).toNatClampNeg + ((r1.2 1 13) * 6).toNatClampNeg) ∨ 144 < 0 + ((r1.2 1 13) * 6).toNatClampNeg) (F' := (44, [(2, .int r1.1), (0, .ref 0), (1, .int v1)], [])) (S' := (am_sh, h4, hm, g)) (by subst h_h4; rfl) hn3 ?_
    refine am_Rn.run am_h126 1 (F' := (45, [(2, .int r1.1), (0, .ref 0), (1, .int v1)], [.int r1.1])) (S' := (am_sh, h4, hm, g)) rfl ?_
    cases hp
    exact am_Rn.ret am_h126 rfl
end
