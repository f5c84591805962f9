section
variable {Xs : Nat × (Nat → Int32)} {hx hm : Nat → Nat → Int32} {g : Nat → Nat → Int64} {S : am_S}
/-- SixHandsModel.bits(I)I [] -/
def zM_bits_L4 : Nat → Int32 → Int32 → Int32 → Option (Int32)
  | 0, _, _, _ => none
  | n + 1, v0, v1, v2 => if v2 < 6 then (am_b (v1 + ((v0 >>> (v2 &&& 31)) &&& 1)) fun x2 => zM_bits_L4 n v0 x2 (v2 + 1)) else (some v1)
set_option maxRecDepth 20000 in
theorem ezM_bits_L4 {d : Nat} (hd : 0 ≤ d) (R : Int32) : ∀ (n : Nat) (v0 : Int32) (v1 : Int32) (v2 : Int32), zM_bits_L4 n v0 v1 v2 = some R → am_Rn 83 Xs am_P d 161 (4, [(0, .int v0), (1, .int v1), (2, .int v2)], []) S (some (.int R), S)
  | 0, _, _, _, hp => by cases hp
  | n + 1, v0, v1, v2, hp => by
    unfold zM_bits_L4 at hp
    refine am_Rn.run am_h161 2 (F' := (7, [(0, .int v0), (1, .int v1), (2, .int v2)], [.int 6, .int v2])) (S' := S) rfl ?_
    refine am_Rn.ite am_h161 (c := v2 < 6) (t := 10) (f := 24) (lv := [(0, .int v0), (1, .int v1), (2, .int v2)]) (st := []) (S' := S) rfl hp (fun hc1 hp => ?_) (fun hc1 hp => ?_)
    · obtain ⟨x2, h_x2, hp⟩ := am_b_e hp
      refine am_Rn.run am_h161 10 (F' := (4, [(2, .int (v2 + 1)), (1, .int x2), (0, .int v0)], [])) (S' := S) (by subst h_x2; rfl) ?_
      refine am_Rn.sub [2, 1, 0] rfl rfl ?_
      exact ezM_bits_L4 hd R n v0 x2 (v2 + 1) hp
    · refine am_Rn.run am_h161 1 (F' := (25, [(0, .int v0), (1, .int v1), (2, .int v2)], [.int v1])) (S' := S) rfl ?_
      cases hp
      exact am_Rn.ret am_h161 rfl
def zM_bits (v0 : Int32) : Option (Int32) := zM_bits_L4 am_N v0 0 0
set_option maxRecDepth 20000 in
theorem ezM_bits {d : Nat} (hd : 0 ≤ d) (v0 : Int32) (R : Int32) (hp : zM_bits v0 = some R) : am_Ev 83 Xs am_P d 161 [.int v0] S (some (.int R), S) := by
  unfold zM_bits at hp
  show am_Rn 83 Xs am_P _ 161 (0, [(0, .int v0)], []) _ _
  refine am_Rn.run am_h161 4 (F' := (4, [(2, .int 0), (1, .int 0), (0, .int v0)], [])) (S' := S) rfl ?_
  refine am_Rn.sub [2, 1, 0] rfl rfl ?_
  exact ezM_bits_L4 hd R am_N v0 0 0 hp
/-- SixHandsModel.isAsWanted(II)Z [83] -/
def zM_isAsWanted (v1 : Int32) (v2 : Int32) (w : zHM) : Option (Int32) := (zM_heldBy v1 v2 w).bind fun r1 => (zM_placeOf v1 v2 w).bind fun r2 => if r2 < 0 then (if r1 = 0 then (some 1) else (some 0)) else ((zM_kindOf v2 w).bind fun r5 => if r5 = 2 then (if r1 = 3 then (some 1) else (if r1 = 12 then (some 1) else (if r1 = 48 then (some 1) else (some 0)))) else ((zM_bits r1).bind fun r10 => if r10 = 1 then (some 1) else (some 0)))
set_option maxRecDepth 20000 in
theorem ezM_isAsWanted {d : Nat} (hd : 1 ≤ d) (v1 : Int32) (v2 : Int32) (w : zHM) (R : Int32) (hp : zM_isAsWanted v1 v2 w = some R) : am_Ev 83 Xs am_P d 219 [.ref 83, .int v1, .int v2] (am_sh, hx, w.1, w.2) (some (.int R), (am_sh, hx, w.1, w.2)) := by
  obtain ⟨d, rfl⟩ : ∃ k, d = k + 1 := ⟨d - 1, by omega⟩
  unfold zM_isAsWanted at hp
  show am_Rn 83 Xs am_P _ 219 (0, [(0, .ref 83), (1, .int v1), (2, .int v2)], []) _ _
  refine am_Rn.run am_h219 3 (F' := (3, [(0, .ref 83), (1, .int v1), (2, .int v2)], [.int v2, .int v1, .ref 83])) (S' := (am_sh, hx, w.1, w.2)) rfl ?_
  obtain ⟨r1, h_r1, hp⟩ := am_bind hp
  refine am_Rn.call am_h219 (mj := 160) (As := [.ref 83, .int v1, .int v2]) (F' := (6, [(0, .ref 83), (1, .int v1), (2, .int v2)], [])) (M' := am_m160) (r := some (.int r1)) (S1 := (am_sh, hx, w.1, w.2)) rfl am_h160 rfl (ezM_heldBy (by omega) v1 v2 w _ h_r1) ?_
  refine am_Rn.run am_h219 4 (F' := (10, [(3, .int r1), (0, .ref 83), (1, .int v1), (2, .int v2)], [.int v2, .int v1, .ref 83])) (S' := (am_sh, hx, w.1, w.2)) rfl ?_
  obtain ⟨r2, h_r2, hp⟩ := am_bind hp
  refine am_Rn.call am_h219 (mj := 159) (As := [.ref 83, .int v1, .int v2]) (F' := (13, [(3, .int r1), (0, .ref 83), (1, .int v1), (2, .int v2)], [])) (M' := am_m159) (r := some (.int r2)) (S1 := (am_sh, hx, w.1, w.2)) rfl am_h159 rfl (ezM_placeOf (by omega) v1 v2 w _ h_r2) ?_
  refine am_Rn.ite am_h219 (c := r2 < 0) (t := 16) (f := 26) (lv := [(3, .int r1), (0, .ref 83), (1, .int v1), (2, .int v2)]) (st := []) (S' := (am_sh, hx, w.1, w.2)) rfl hp (fun hc3 hp => ?_) (fun hc3 hp => ?_)
  · refine am_Rn.run am_h219 1 (F' := (17, [(3, .int r1), (0, .ref 83), (1, .int v1), (2, .int v2)], [.int r1])) (S' := (am_sh, hx, w.1, w.2)) rfl ?_
    refine am_Rn.ite am_h219 (c := r1 = 0) (t := 20) (f := 24) (lv := [(3, .int r1), (0, .ref 83), (1, .int v1), (2, .int v2)]) (st := []) (S' := (am_sh, hx, w.1, w.2)) rfl hp (fun hc4 hp => ?_) (fun hc4 hp => ?_)
    · refine am_Rn.run am_h219 2 (F' := (25, [(3, .int r1), (0, .ref 83), (1, .int v1), (2, .int v2)], [.int 1])) (S' := (am_sh, hx, w.1, w.2)) rfl ?_
      cases hp
      exact am_Rn.ret am_h219 rfl
    · refine am_Rn.run am_h219 1 (F' := (25, [(3, .int r1), (0, .ref 83), (1, .int v1), (2, .int v2)], [.int 0])) (S' := (am_sh, hx, w.1, w.2)) rfl ?_
      cases hp
      exact am_Rn.ret am_h219 rfl
  · refine am_Rn.run am_h219 2 (F' := (28, [(3, .int r1), (0, .ref 83), (1, .int v1), (2, .int v2)], [.int v2, .ref 83])) (S' := (am_sh, hx, w.1, w.2)) rfl ?_
    obtain ⟨r5, h_r5, hp⟩ := am_bind hp
    refine am_Rn.call am_h219 (mj := 158) (As := [.ref 83, .int v2]) (F' := (31, [(3, .int r1), (0, .ref 83), (1, .int v1), (2, .int v2)], [])) (M' := am_m158) (r := some (.int r5)) (S1 := (am_sh, hx, w.1, w.2)) rfl am_h158 rfl (ezM_kindOf (by omega) v2 w _ h_r5) ?_
    refine am_Rn.run am_h219 1 (F' := (32, [(3, .int r1), (0, .ref 83), (1, .int v1), (2, .int v2)], [.int 2, .int r5])) (S' := (am_sh, hx, w.1, w.2)) rfl ?_
    refine am_Rn.ite am_h219 (c := r5 = 2) (t := 35) (f := 60) (lv := [(3, .int r1), (0, .ref 83), (1, .int v1), (2, .int v2)]) (st := []) (S' := (am_sh, hx, w.1, w.2)) rfl hp (fun hc6 hp => ?_) (fun hc6 hp => ?_)
    · refine am_Rn.run am_h219 2 (F' := (37, [(3, .int r1), (0, .ref 83), (1, .int v1), (2, .int v2)], [.int 3, .int r1])) (S' := (am_sh, hx, w.1, w.2)) rfl ?_
      refine am_Rn.ite am_h219 (c := r1 = 3) (t := 52) (f := 40) (lv := [(3, .int r1), (0, .ref 83), (1, .int v1), (2, .int v2)]) (st := []) (S' := (am_sh, hx, w.1, w.2)) rfl hp (fun hc7 hp => ?_) (fun hc7 hp => ?_)
      · refine am_Rn.run am_h219 2 (F' := (73, [(3, .int r1), (0, .ref 83), (1, .int v1), (2, .int v2)], [.int 1])) (S' := (am_sh, hx, w.1, w.2)) rfl ?_
        cases hp
        exact am_Rn.ret am_h219 rfl
      · refine am_Rn.run am_h219 2 (F' := (43, [(3, .int r1), (0, .ref 83), (1, .int v1), (2, .int v2)], [.int 12, .int r1])) (S' := (am_sh, hx, w.1, w.2)) rfl ?_
        refine am_Rn.ite am_h219 (c := r1 = 12) (t := 52) (f := 46) (lv := [(3, .int r1), (0, .ref 83), (1, .int v1), (2, .int v2)]) (st := []) (S' := (am_sh, hx, w.1, w.2)) rfl hp (fun hc8 hp => ?_) (fun hc8 hp => ?_)
        · refine am_Rn.run am_h219 2 (F' := (73, [(3, .int r1), (0, .ref 83), (1, .int v1), (2, .int v2)], [.int 1])) (S' := (am_sh, hx, w.1, w.2)) rfl ?_
          cases hp
          exact am_Rn.ret am_h219 rfl
        · refine am_Rn.run am_h219 2 (F' := (49, [(3, .int r1), (0, .ref 83), (1, .int v1), (2, .int v2)], [.int 48, .int r1])) (S' := (am_sh, hx, w.1, w.2)) rfl ?_
          refine am_Rn.ite am_h219 (c := r1 = 48) (t := 52) (f := 56) (lv := [(3, .int r1), (0, .ref 83), (1, .int v1), (2, .int v2)]) (st := []) (S' := (am_sh, hx, w.1, w.2)) rfl hp (fun hc9 hp => ?_) (fun hc9 hp => ?_)
          · refine am_Rn.run am_h219 2 (F' := (73, [(3, .int r1), (0, .ref 83), (1, .int v1), (2, .int v2)], [.int 1])) (S' := (am_sh, hx, w.1, w.2)) rfl ?_
            cases hp
            exact am_Rn.ret am_h219 rfl
          · refine am_Rn.run am_h219 2 (F' := (73, [(3, .int r1), (0, .ref 83), (1, .int v1), (2, .int v2)], [.int 0])) (S' := (am_sh, hx, w.1, w.2)) rfl ?_
            cases hp
            exact am_Rn.ret am_h219 rfl
    · refine am_Rn.run am_h219 1 (F' := (61, [(3, .int r1), (0, .ref 83), (1, .int v1), (2, .int v2)], [.int r1])) (S' := (am_sh, hx, w.1, w.2)) rfl ?_
      obtain ⟨r10, h_r10, hp⟩ := am_bind hp
      refine am_Rn.call am_h219 (mj := 161) (As := [.int r1]) (F' := (64, [(3, .int r1), (0, .ref 83), (1, .int v1), (2, .int v2)], [])) (M' := am_m161) (r := some (.int r10)) (S1 := (am_sh, hx, w.1, w.2)) rfl am_h161 rfl (ezM_bits (by omega) r1 _ h_r10) ?_
      refine am_Rn.run am_h219 1 (F' := (65, [(3, .int r1), (0, .ref 83), (1, .int v1), (2, .int v2)], [.int 1, .int r10])) (S' := (am_sh, hx, w.1, w.2)) rfl ?_
      refine am_Rn.ite am_h219 (c := r10 = 1) (t := 68) (f := 72) (lv := [(3, .int r1), (0, .ref 83), (1, .int v1), (2, .int v2)]) (st := []) (S' := (am_sh, hx, w.1, w.2)) rfl hp (fun hc11 hp => ?_) (fun hc11 hp => ?_)
      · refine am_Rn.run am_h219 2 (F' := (73, [(3, .int r1), (0, .ref 83), (1, .int v1), (2, .int v2)], [.int 1])) (S' := (am_sh, hx, w.1, w.2)) rfl ?_
        cases hp
        exact am_Rn.ret am_h219 rfl
      · refine am_Rn.run am_h219 1 (F' := (73, [(3, .int r1), (0, .ref 83), (1, .int v1), (2, .int v2)], [.int 0])) (S' := (am_sh, hx, w.1, w.2)) rfl ?_
        cases hp
        exact am_Rn.ret am_h219 rfl
/-- SixHandsModel.holdsTwo(I)Z [83] -/
def zM_holdsTwo_L4 : Nat → Int32 → Int32 → Int32 → zHM → Option (Int32)
  | 0, _, _, _, _ => none
  | n + 1, v1, v2, v3, w => if v3 < (w.1 84 1) then ((zM_heldBy v1 v3 w).bind fun r2 => if (v2 &&& r2) = 0 then ((zM_heldBy v1 v3 w).bind fun r4 => am_b (v2 ||| r4) fun x5 => zM_holdsTwo_L4 n v1 x5 (v3 + 1) w) else (some 1)) else (some 0)
set_option maxRecDepth 20000 in
theorem ezM_holdsTwo_L4 {d : Nat} (hd : 1 ≤ d) (R : Int32) : ∀ (n : Nat) (v1 : Int32) (v2 : Int32) (v3 : Int32) (w : zHM), zM_holdsTwo_L4 n v1 v2 v3 w = some R → am_Rn 83 Xs am_P d 221 (4, [(0, .ref 83), (1, .int v1), (2, .int v2), (3, .int v3)], []) (am_sh, hx, w.1, w.2) (some (.int R), (am_sh, hx, w.1, w.2))
  | 0, _, _, _, _, hp => by cases hp
  | n + 1, v1, v2, v3, w, hp => by
    obtain ⟨d, rfl⟩ : ∃ k, d = k + 1 := ⟨d - 1, by omega⟩
    unfold zM_holdsTwo_L4 at hp
    refine am_Rn.run am_h221 5 (F' := (11, [(0, .ref 83), (1, .int v1), (2, .int v2), (3, .int v3)], [.int (w.1 84 1), .int v3])) (S' := (am_sh, hx, w.1, w.2)) rfl ?_
    refine am_Rn.ite am_h221 (c := v3 < (w.1 84 1)) (t := 14) (f := 42) (lv := [(0, .ref 83), (1, .int v1), (2, .int v2), (3, .int v3)]) (st := []) (S' := (am_sh, hx, w.1, w.2)) rfl hp (fun hc1 hp => ?_) (fun hc1 hp => ?_)
    · refine am_Rn.run am_h221 4 (F' := (18, [(0, .ref 83), (1, .int v1), (2, .int v2), (3, .int v3)], [.int v3, .int v1, .ref 83, .int v2])) (S' := (am_sh, hx, w.1, w.2)) rfl ?_
      obtain ⟨r2, h_r2, hp⟩ := am_bind hp
      refine am_Rn.call am_h221 (mj := 160) (As := [.ref 83, .int v1, .int v3]) (F' := (21, [(0, .ref 83), (1, .int v1), (2, .int v2), (3, .int v3)], [.int v2])) (M' := am_m160) (r := some (.int r2)) (S1 := (am_sh, hx, w.1, w.2)) rfl am_h160 rfl (ezM_heldBy (by omega) v1 v3 w _ h_r2) ?_
      refine am_Rn.run am_h221 1 (F' := (22, [(0, .ref 83), (1, .int v1), (2, .int v2), (3, .int v3)], [.int (v2 &&& r2)])) (S' := (am_sh, hx, w.1, w.2)) rfl ?_
      refine am_Rn.ite am_h221 (c := (v2 &&& r2) = 0) (t := 27) (f := 25) (lv := [(0, .ref 83), (1, .int v1), (2, .int v2), (3, .int v3)]) (st := []) (S' := (am_sh, hx, w.1, w.2)) rfl hp (fun hc3 hp => ?_) (fun hc3 hp => ?_)
      · refine am_Rn.run am_h221 4 (F' := (31, [(0, .ref 83), (1, .int v1), (2, .int v2), (3, .int v3)], [.int v3, .int v1, .ref 83, .int v2])) (S' := (am_sh, hx, w.1, w.2)) rfl ?_
        obtain ⟨r4, h_r4, hp⟩ := am_bind hp
        refine am_Rn.call am_h221 (mj := 160) (As := [.ref 83, .int v1, .int v3]) (F' := (34, [(0, .ref 83), (1, .int v1), (2, .int v2), (3, .int v3)], [.int v2])) (M' := am_m160) (r := some (.int r4)) (S1 := (am_sh, hx, w.1, w.2)) rfl am_h160 rfl (ezM_heldBy (by omega) v1 v3 w _ h_r4) ?_
        obtain ⟨x5, h_x5, hp⟩ := am_b_e hp
        refine am_Rn.run am_h221 4 (F' := (4, [(3, .int (v3 + 1)), (2, .int x5), (0, .ref 83), (1, .int v1)], [])) (S' := (am_sh, hx, w.1, w.2)) (by subst h_x5; rfl) ?_
        refine am_Rn.sub [2, 3, 1, 0] rfl rfl ?_
        exact ezM_holdsTwo_L4 hd R n v1 x5 (v3 + 1) w hp
      · refine am_Rn.run am_h221 1 (F' := (26, [(0, .ref 83), (1, .int v1), (2, .int v2), (3, .int v3)], [.int 1])) (S' := (am_sh, hx, w.1, w.2)) rfl ?_
        cases hp
        exact am_Rn.ret am_h221 rfl
    · refine am_Rn.run am_h221 1 (F' := (43, [(0, .ref 83), (1, .int v1), (2, .int v2), (3, .int v3)], [.int 0])) (S' := (am_sh, hx, w.1, w.2)) rfl ?_
      cases hp
      exact am_Rn.ret am_h221 rfl
def zM_holdsTwo (v1 : Int32) (w : zHM) : Option (Int32) := zM_holdsTwo_L4 am_N v1 0 0 w
set_option maxRecDepth 20000 in
theorem ezM_holdsTwo {d : Nat} (hd : 1 ≤ d) (v1 : Int32) (w : zHM) (R : Int32) (hp : zM_holdsTwo v1 w = some R) : am_Ev 83 Xs am_P d 221 [.ref 83, .int v1] (am_sh, hx, w.1, w.2) (some (.int R), (am_sh, hx, w.1, w.2)) := by
  obtain ⟨d, rfl⟩ : ∃ k, d = k + 1 := ⟨d - 1, by omega⟩
  unfold zM_holdsTwo at hp
  show am_Rn 83 Xs am_P _ 221 (0, [(0, .ref 83), (1, .int v1)], []) _ _
  refine am_Rn.run am_h221 4 (F' := (4, [(3, .int 0), (2, .int 0), (0, .ref 83), (1, .int v1)], [])) (S' := (am_sh, hx, w.1, w.2)) rfl ?_
  refine am_Rn.sub [2, 3, 1, 0] rfl rfl ?_
  exact ezM_holdsTwo_L4 hd R am_N v1 0 0 w hp
/-- SixHandsModel.homeOf(I)I [83] -/
def zM_homeOf (v1 : Int32) (w : zHM) : Option (Int32) := am_ix 350 (10 + (2 * (v1 / 2))) (some (w.1 84 ((10 + (2 * (v1 / 2))).toNatClampNeg)))
set_option maxRecDepth 20000 in
theorem ezM_homeOf {d : Nat} (hd : 0 ≤ d) (v1 : Int32) (w : zHM) (R : Int32) (hp : zM_homeOf v1 w = some R) : am_Ev 83 Xs am_P d 157 [.ref 83, .int v1] (am_sh, hx, w.1, w.2) (some (.int R), (am_sh, hx, w.1, w.2)) := by
  unfold zM_homeOf at hp
  show am_Rn 83 Xs am_P _ 157 (0, [(0, .ref 83), (1, .int v1)], []) _ _
  refine am_Rn.run am_h157 9 (F' := (12, [(0, .ref 83), (1, .int v1)], [.int (10 + (2 * (v1 / 2))), .ref 84])) (S' := (am_sh, hx, w.1, w.2)) rfl ?_
  obtain ⟨hn1, hp⟩ := am_ix_e hp
  refine am_Rn.stepG am_h157 (c := (10 + (2 * (v1 / 2))) < 0 ∨ 350 ≤ (10 + (2 * (v1 / 2))).toNatClampNeg) (F' := (13, [(0, .ref 83), (1, .int v1)], [.int (w.1 84 ((10 + (2 * (v1 / 2))).toNatClampNeg))])) (S' := (am_sh, hx, w.1, w.2)) rfl hn1 ?_
  cases hp
  exact am_Rn.ret am_h157 rfl
/-- SixHandsModel.isInReach(II)Z [83] -/
def zM_isInReach_L2 : Nat → Int32 → Int32 → Int32 → zHM → Option (Int32)
  | 0, _, _, _, _ => none
  | n + 1, v1, v2, v3, w => am_b (zM_hands w) fun r1 => if v3 < r1 then (if ((v2 >>> (v3 &&& 31)) &&& 1) = 0 then (zM_isInReach_L2 n v1 v2 (v3 + 1) w) else (am_ix 350 ((10 + (2 * (v3 / 2))) + 1) (am_b (w.1 84 (((10 + (2 * (v3 / 2))) + 1).toNatClampNeg)) fun x5 => (zM_homeOf v3 w).bind fun r6 => am_b (zM_isIn (v1 - r6) (-x5) x5) fun r7 => if r7 = 0 then (some 0) else (zM_isInReach_L2 n v1 v2 (v3 + 1) w)))) else (some 1)
set_option maxRecDepth 20000 in
theorem ezM_isInReach_L2 {d : Nat} (hd : 1 ≤ d) (R : Int32) : ∀ (n : Nat) (v1 : Int32) (v2 : Int32) (v3 : Int32) (w : zHM), zM_isInReach_L2 n v1 v2 v3 w = some R → am_Rn 83 Xs am_P d 217 (2, [(0, .ref 83), (1, .int v1), (2, .int v2), (3, .int v3)], []) (am_sh, hx, w.1, w.2) (some (.int R), (am_sh, hx, w.1, w.2))
  | 0, _, _, _, _, hp => by cases hp
  | n + 1, v1, v2, v3, w, hp => by
    obtain ⟨d, rfl⟩ : ∃ k, d = k + 1 := ⟨d - 1, by omega⟩
    unfold zM_isInReach_L2 at hp
    refine am_Rn.run am_h217 2 (F' := (4, [(0, .ref 83), (1, .int v1), (2, .int v2), (3, .int v3)], [.ref 83, .int v3])) (S' := (am_sh, hx, w.1, w.2)) rfl ?_
    obtain ⟨r1, h_r1, hp⟩ := am_b_e hp
    refine am_Rn.call am_h217 (mj := 156) (As := [.ref 83]) (F' := (7, [(0, .ref 83), (1, .int v1), (2, .int v2), (3, .int v3)], [.int v3])) (M' := am_m156) (r := some (.int r1)) (S1 := (am_sh, hx, w.1, w.2)) rfl am_h156 rfl (by subst h_r1; exact (ezM_hands (by omega) w)) ?_
    refine am_Rn.ite am_h217 (c := v3 < r1) (t := 10) (f := 64) (lv := [(0, .ref 83), (1, .int v1), (2, .int v2), (3, .int v3)]) (st := []) (S' := (am_sh, hx, w.1, w.2)) rfl hp (fun hc2 hp => ?_) (fun hc2 hp => ?_)
    · refine am_Rn.run am_h217 5 (F' := (15, [(0, .ref 83), (1, .int v1), (2, .int v2), (3, .int v3)], [.int ((v2 >>> (v3 &&& 31)) &&& 1)])) (S' := (am_sh, hx, w.1, w.2)) rfl ?_
      refine am_Rn.ite am_h217 (c := ((v2 >>> (v3 &&& 31)) &&& 1) = 0) (t := 18) (f := 21) (lv := [(0, .ref 83), (1, .int v1), (2, .int v2), (3, .int v3)]) (st := []) (S' := (am_sh, hx, w.1, w.2)) rfl hp (fun hc3 hp => ?_) (fun hc3 hp => ?_)
      · refine am_Rn.run am_h217 3 (F' := (2, [(3, .int (v3 + 1)), (0, .ref 83), (1, .int v1), (2, .int v2)], [])) (S' := (am_sh, hx, w.1, w.2)) rfl ?_
        refine am_Rn.sub [1, 2, 3, 0] rfl rfl ?_
        exact ezM_isInReach_L2 hd R n v1 v2 (v3 + 1) w hp
      · refine am_Rn.run am_h217 11 (F' := (35, [(0, .ref 83), (1, .int v1), (2, .int v2), (3, .int v3)], [.int ((10 + (2 * (v3 / 2))) + 1), .ref 84])) (S' := (am_sh, hx, w.1, w.2)) rfl ?_
        obtain ⟨hn4, hp⟩ := am_ix_e hp
        refine am_Rn.stepG am_h217 (c := ((10 + (2 * (v3 / 2))) + 1) < 0 ∨ 350 ≤ ((10 + (2 * (v3 / 2))) + 1).toNatClampNeg) (F' := (36, [(0, .ref 83), (1, .int v1), (2, .int v2), (3, .int v3)], [.int (w.1 84 (((10 + (2 * (v3 / 2))) + 1).toNatClampNeg))])) (S' := (am_sh, hx, w.1, w.2)) rfl hn4 ?_
        obtain ⟨x5, h_x5, hp⟩ := am_b_e hp
        refine am_Rn.run am_h217 4 (F' := (41, [(4, .int x5), (0, .ref 83), (1, .int v1), (2, .int v2), (3, .int v3)], [.int v3, .ref 83, .int v1])) (S' := (am_sh, hx, w.1, w.2)) (by subst h_x5; rfl) ?_
        obtain ⟨r6, h_r6, hp⟩ := am_bind hp
        refine am_Rn.call am_h217 (mj := 157) (As := [.ref 83, .int v3]) (F' := (44, [(4, .int x5), (0, .ref 83), (1, .int v1), (2, .int v2), (3, .int v3)], [.int v1])) (M' := am_m157) (r := some (.int r6)) (S1 := (am_sh, hx, w.1, w.2)) rfl am_h157 rfl (ezM_homeOf (by omega) v3 w _ h_r6) ?_
        refine am_Rn.run am_h217 4 (F' := (50, [(4, .int x5), (0, .ref 83), (1, .int v1), (2, .int v2), (3, .int v3)], [.int x5, .int (-x5), .int (v1 - r6)])) (S' := (am_sh, hx, w.1, w.2)) rfl ?_
        obtain ⟨r7, h_r7, hp⟩ := am_b_e hp
        refine am_Rn.call am_h217 (mj := 152) (As := [.int (v1 - r6), .int (-x5), .int x5]) (F' := (53, [(4, .int x5), (0, .ref 83), (1, .int v1), (2, .int v2), (3, .int v3)], [])) (M' := am_m152) (r := some (.int r7)) (S1 := (am_sh, hx, w.1, w.2)) rfl am_h152 rfl (by subst h_r7; exact (ezM_isIn (by omega) (v1 - r6) (-x5) x5)) ?_
        refine am_Rn.ite am_h217 (c := r7 = 0) (t := 56) (f := 58) (lv := [(4, .int x5), (0, .ref 83), (1, .int v1), (2, .int v2), (3, .int v3)]) (st := []) (S' := (am_sh, hx, w.1, w.2)) rfl hp (fun hc8 hp => ?_) (fun hc8 hp => ?_)
        · refine am_Rn.run am_h217 1 (F' := (57, [(4, .int x5), (0, .ref 83), (1, .int v1), (2, .int v2), (3, .int v3)], [.int 0])) (S' := (am_sh, hx, w.1, w.2)) rfl ?_
          cases hp
          exact am_Rn.ret am_h217 rfl
        · refine am_Rn.run am_h217 2 (F' := (2, [(3, .int (v3 + 1)), (4, .int x5), (0, .ref 83), (1, .int v1), (2, .int v2)], [])) (S' := (am_sh, hx, w.1, w.2)) rfl ?_
          refine am_Rn.sub [2, 3, 4, 0] rfl rfl ?_
          exact ezM_isInReach_L2 hd R n v1 v2 (v3 + 1) w hp
    · refine am_Rn.run am_h217 1 (F' := (65, [(0, .ref 83), (1, .int v1), (2, .int v2), (3, .int v3)], [.int 1])) (S' := (am_sh, hx, w.1, w.2)) rfl ?_
      cases hp
      exact am_Rn.ret am_h217 rfl
def zM_isInReach (v1 : Int32) (v2 : Int32) (w : zHM) : Option (Int32) := zM_isInReach_L2 am_N v1 v2 0 w
set_option maxRecDepth 20000 in
theorem ezM_isInReach {d : Nat} (hd : 1 ≤ d) (v1 : Int32) (v2 : Int32) (w : zHM) (R : Int32) (hp : zM_isInReach v1 v2 w = some R) : am_Ev 83 Xs am_P d 217 [.ref 83, .int v1, .int v2] (am_sh, hx, w.1, w.2) (some (.int R), (am_sh, hx, w.1, w.2)) := by
  obtain ⟨d, rfl⟩ : ∃ k, d = k + 1 := ⟨d - 1, by omega⟩
  unfold zM_isInReach at hp
  show am_Rn 83 Xs am_P _ 217 (0, [(0, .ref 83), (1, .int v1), (2, .int v2)], []) _ _
  refine am_Rn.run am_h217 2 (F' := (2, [(3, .int 0), (0, .ref 83), (1, .int v1), (2, .int v2)], [])) (S' := (am_sh, hx, w.1, w.2)) rfl ?_
  refine am_Rn.sub [1, 2, 3, 0] rfl rfl ?_
  exact ezM_isInReach_L2 hd R am_N v1 v2 0 w hp
/-- SixHandsModel.isAhead(II)Z [83] -/
def zM_isAhead (v1 : Int32) (v2 : Int32) (w : zHM) : Option (Int32) := (zM_homeOf v1 w).bind fun r1 => (zM_homeOf v2 w).bind fun r2 => if r1 < r2 then (some 1) else ((zM_homeOf v1 w).bind fun r4 => (zM_homeOf v2 w).bind fun r5 => if r4 = r5 then (if v1 < v2 then (some 1) else (some 0)) else (some 0))
set_option maxRecDepth 20000 in
theorem ezM_isAhead {d : Nat} (hd : 1 ≤ d) (v1 : Int32) (v2 : Int32) (w : zHM) (R : Int32) (hp : zM_isAhead v1 v2 w = some R) : am_Ev 83 Xs am_P d 218 [.ref 83, .int v1, .int v2] (am_sh, hx, w.1, w.2) (some (.int R), (am_sh, hx, w.1, w.2)) := by
  obtain ⟨d, rfl⟩ : ∃ k, d = k + 1 := ⟨d - 1, by omega⟩
  unfold zM_isAhead at hp
  show am_Rn 83 Xs am_P _ 218 (0, [(0, .ref 83), (1, .int v1), (2, .int v2)], []) _ _
  refine am_Rn.run am_h218 2 (F' := (2, [(0, .ref 83), (1, .int v1), (2, .int v2)], [.int v1, .ref 83])) (S' := (am_sh, hx, w.1, w.2)) rfl ?_
  obtain ⟨r1, h_r1, hp⟩ := am_bind hp
  refine am_Rn.call am_h218 (mj := 157) (As := [.ref 83, .int v1]) (F' := (5, [(0, .ref 83), (1, .int v1), (2, .int v2)], [])) (M' := am_m157) (r := some (.int r1)) (S1 := (am_sh, hx, w.1, w.2)) rfl am_h157 rfl (ezM_homeOf (by omega) v1 w _ h_r1) ?_
  refine am_Rn.run am_h218 2 (F' := (7, [(0, .ref 83), (1, .int v1), (2, .int v2)], [.int v2, .ref 83, .int r1])) (S' := (am_sh, hx, w.1, w.2)) rfl ?_
  obtain ⟨r2, h_r2, hp⟩ := am_bind hp
  refine am_Rn.call am_h218 (mj := 157) (As := [.ref 83, .int v2]) (F' := (10, [(0, .ref 83), (1, .int v1), (2, .int v2)], [.int r1])) (M' := am_m157) (r := some (.int r2)) (S1 := (am_sh, hx, w.1, w.2)) rfl am_h157 rfl (ezM_homeOf (by omega) v2 w _ h_r2) ?_
  refine am_Rn.ite am_h218 (c := r1 < r2) (t := 31) (f := 13) (lv := [(0, .ref 83), (1, .int v1), (2, .int v2)]) (st := []) (S' := (am_sh, hx, w.1, w.2)) rfl hp (fun hc3 hp => ?_) (fun hc3 hp => ?_)
  · refine am_Rn.run am_h218 2 (F' := (36, [(0, .ref 83), (1, .int v1), (2, .int v2)], [.int 1])) (S' := (am_sh, hx, w.1, w.2)) rfl ?_
    cases hp
    exact am_Rn.ret am_h218 rfl
  · refine am_Rn.run am_h218 2 (F' := (15, [(0, .ref 83), (1, .int v1), (2, .int v2)], [.int v1, .ref 83])) (S' := (am_sh, hx, w.1, w.2)) rfl ?_
    obtain ⟨r4, h_r4, hp⟩ := am_bind hp
    refine am_Rn.call am_h218 (mj := 157) (As := [.ref 83, .int v1]) (F' := (18, [(0, .ref 83), (1, .int v1), (2, .int v2)], [])) (M' := am_m157) (r := some (.int r4)) (S1 := (am_sh, hx, w.1, w.2)) rfl am_h157 rfl (ezM_homeOf (by omega) v1 w _ h_r4) ?_
    refine am_Rn.run am_h218 2 (F' := (20, [(0, .ref 83), (1, .int v1), (2, .int v2)], [.int v2, .ref 83, .int r4])) (S' := (am_sh, hx, w.1, w.2)) rfl ?_
    obtain ⟨r5, h_r5, hp⟩ := am_bind hp
    refine am_Rn.call am_h218 (mj := 157) (As := [.ref 83, .int v2]) (F' := (23, [(0, .ref 83), (1, .int v1), (2, .int v2)], [.int r4])) (M' := am_m157) (r := some (.int r5)) (S1 := (am_sh, hx, w.1, w.2)) rfl am_h157 rfl (ezM_homeOf (by omega) v2 w _ h_r5) ?_
    refine am_Rn.ite am_h218 (c := r4 = r5) (t := 26) (f := 35) (lv := [(0, .ref 83), (1, .int v1), (2, .int v2)]) (st := []) (S' := (am_sh, hx, w.1, w.2)) rfl hp (fun hc6 hp => ?_) (fun hc6 hp => ?_)
    · refine am_Rn.run am_h218 2 (F' := (28, [(0, .ref 83), (1, .int v1), (2, .int v2)], [.int v2, .int v1])) (S' := (am_sh, hx, w.1, w.2)) rfl ?_
      refine am_Rn.ite am_h218 (c := v1 < v2) (t := 31) (f := 35) (lv := [(0, .ref 83), (1, .int v1), (2, .int v2)]) (st := []) (S' := (am_sh, hx, w.1, w.2)) rfl hp (fun hc7 hp => ?_) (fun hc7 hp => ?_)
      · refine am_Rn.run am_h218 2 (F' := (36, [(0, .ref 83), (1, .int v1), (2, .int v2)], [.int 1])) (S' := (am_sh, hx, w.1, w.2)) rfl ?_
        cases hp
        exact am_Rn.ret am_h218 rfl
      · refine am_Rn.run am_h218 1 (F' := (36, [(0, .ref 83), (1, .int v1), (2, .int v2)], [.int 0])) (S' := (am_sh, hx, w.1, w.2)) rfl ?_
        cases hp
        exact am_Rn.ret am_h218 rfl
    · refine am_Rn.run am_h218 1 (F' := (36, [(0, .ref 83), (1, .int v1), (2, .int v2)], [.int 0])) (S' := (am_sh, hx, w.1, w.2)) rfl ?_
      cases hp
      exact am_Rn.ret am_h218 rfl
/-- SixHandsModel.figureOf(II)I [83] -/
def zM_figureOf_L2 : Nat → Int32 → Int32 → Int32 → zHM → Option (Int32)
  | 0, _, _, _, _ => none
  | n + 1, v1, v2, v3, w => if v3 < (w.1 84 1) then ((zM_placeOf v1 v3 w).bind fun r2 => if r2 < 0 then (zM_figureOf_L2 n v1 v2 (v3 + 1) w) else ((zM_heldBy v1 v3 w).bind fun r4 => if ((r4 >>> (v2 &&& 31)) &&& 1) = 1 then (some v3) else (zM_figureOf_L2 n v1 v2 (v3 + 1) w))) else (some (-1))
set_option maxRecDepth 20000 in
theorem ezM_figureOf_L2 {d : Nat} (hd : 1 ≤ d) (R : Int32) : ∀ (n : Nat) (v1 : Int32) (v2 : Int32) (v3 : Int32) (w : zHM), zM_figureOf_L2 n v1 v2 v3 w = some R → am_Rn 83 Xs am_P d 220 (2, [(0, .ref 83), (1, .int v1), (2, .int v2), (3, .int v3)], []) (am_sh, hx, w.1, w.2) (some (.int R), (am_sh, hx, w.1, w.2))
  | 0, _, _, _, _, hp => by cases hp
  | n + 1, v1, v2, v3, w, hp => by
    obtain ⟨d, rfl⟩ : ∃ k, d = k + 1 := ⟨d - 1, by omega⟩
    unfold zM_figureOf_L2 at hp
    refine am_Rn.run am_h220 5 (F' := (9, [(0, .ref 83), (1, .int v1), (2, .int v2), (3, .int v3)], [.int (w.1 84 1), .int v3])) (S' := (am_sh, hx, w.1, w.2)) rfl ?_
    refine am_Rn.ite am_h220 (c := v3 < (w.1 84 1)) (t := 12) (f := 43) (lv := [(0, .ref 83), (1, .int v1), (2, .int v2), (3, .int v3)]) (st := []) (S' := (am_sh, hx, w.1, w.2)) rfl hp (fun hc1 hp => ?_) (fun hc1 hp => ?_)
    · refine am_Rn.run am_h220 3 (F' := (15, [(0, .ref 83), (1, .int v1), (2, .int v2), (3, .int v3)], [.int v3, .int v1, .ref 83])) (S' := (am_sh, hx, w.1, w.2)) rfl ?_
      obtain ⟨r2, h_r2, hp⟩ := am_bind hp
      refine am_Rn.call am_h220 (mj := 159) (As := [.ref 83, .int v1, .int v3]) (F' := (18, [(0, .ref 83), (1, .int v1), (2, .int v2), (3, .int v3)], [])) (M' := am_m159) (r := some (.int r2)) (S1 := (am_sh, hx, w.1, w.2)) rfl am_h159 rfl (ezM_placeOf (by omega) v1 v3 w _ h_r2) ?_
      refine am_Rn.ite am_h220 (c := r2 < 0) (t := 37) (f := 21) (lv := [(0, .ref 83), (1, .int v1), (2, .int v2), (3, .int v3)]) (st := []) (S' := (am_sh, hx, w.1, w.2)) rfl hp (fun hc3 hp => ?_) (fun hc3 hp => ?_)
      · refine am_Rn.run am_h220 2 (F' := (2, [(3, .int (v3 + 1)), (0, .ref 83), (1, .int v1), (2, .int v2)], [])) (S' := (am_sh, hx, w.1, w.2)) rfl ?_
        refine am_Rn.sub [1, 2, 3, 0] rfl rfl ?_
        exact ezM_figureOf_L2 hd R n v1 v2 (v3 + 1) w hp
      · refine am_Rn.run am_h220 3 (F' := (24, [(0, .ref 83), (1, .int v1), (2, .int v2), (3, .int v3)], [.int v3, .int v1, .ref 83])) (S' := (am_sh, hx, w.1, w.2)) rfl ?_
        obtain ⟨r4, h_r4, hp⟩ := am_bind hp
        refine am_Rn.call am_h220 (mj := 160) (As := [.ref 83, .int v1, .int v3]) (F' := (27, [(0, .ref 83), (1, .int v1), (2, .int v2), (3, .int v3)], [])) (M' := am_m160) (r := some (.int r4)) (S1 := (am_sh, hx, w.1, w.2)) rfl am_h160 rfl (ezM_heldBy (by omega) v1 v3 w _ h_r4) ?_
        refine am_Rn.run am_h220 5 (F' := (32, [(0, .ref 83), (1, .int v1), (2, .int v2), (3, .int v3)], [.int 1, .int ((r4 >>> (v2 &&& 31)) &&& 1)])) (S' := (am_sh, hx, w.1, w.2)) rfl ?_
        refine am_Rn.ite am_h220 (c := ((r4 >>> (v2 &&& 31)) &&& 1) = 1) (t := 35) (f := 37) (lv := [(0, .ref 83), (1, .int v1), (2, .int v2), (3, .int v3)]) (st := []) (S' := (am_sh, hx, w.1, w.2)) rfl hp (fun hc5 hp => ?_) (fun hc5 hp => ?_)
        · refine am_Rn.run am_h220 1 (F' := (36, [(0, .ref 83), (1, .int v1), (2, .int v2), (3, .int v3)], [.int v3])) (S' := (am_sh, hx, w.1, w.2)) rfl ?_
          cases hp
          exact am_Rn.ret am_h220 rfl
        · refine am_Rn.run am_h220 2 (F' := (2, [(3, .int (v3 + 1)), (0, .ref 83), (1, .int v1), (2, .int v2)], [])) (S' := (am_sh, hx, w.1, w.2)) rfl ?_
          refine am_Rn.sub [1, 2, 3, 0] rfl rfl ?_
          exact ezM_figureOf_L2 hd R n v1 v2 (v3 + 1) w hp
    · refine am_Rn.run am_h220 1 (F' := (44, [(0, .ref 83), (1, .int v1), (2, .int v2), (3, .int v3)], [.int (-1)])) (S' := (am_sh, hx, w.1, w.2)) rfl ?_
      cases hp
      exact am_Rn.ret am_h220 rfl
def zM_figureOf (v1 : Int32) (v2 : Int32) (w : zHM) : Option (Int32) := zM_figureOf_L2 am_N v1 v2 0 w
set_option maxRecDepth 20000 in
theorem ezM_figureOf {d : Nat} (hd : 1 ≤ d) (v1 : Int32) (v2 : Int32) (w : zHM) (R : Int32) (hp : zM_figureOf v1 v2 w = some R) : am_Ev 83 Xs am_P d 220 [.ref 83, .int v1, .int v2] (am_sh, hx, w.1, w.2) (some (.int R), (am_sh, hx, w.1, w.2)) := by
  obtain ⟨d, rfl⟩ : ∃ k, d = k + 1 := ⟨d - 1, by omega⟩
  unfold zM_figureOf at hp
  show am_Rn 83 Xs am_P _ 220 (0, [(0, .ref 83), (1, .int v1), (2, .int v2)], []) _ _
  refine am_Rn.run am_h220 2 (F' := (2, [(3, .int 0), (0, .ref 83), (1, .int v1), (2, .int v2)], [])) (S' := (am_sh, hx, w.1, w.2)) rfl ?_
  refine am_Rn.sub [1, 2, 3, 0] rfl rfl ?_
  exact ezM_figureOf_L2 hd R am_N v1 v2 0 w hp
/-- SixHandsModel.crosses(I)Z [83] -/
def zM_crosses_L12 (k2 : Int32 → Int32 → zHM → Option (Int32)) : Nat → Int32 → Int32 → Int32 → zHM → Option (Int32)
  | 0, _, _, _, _ => none
  | n + 1, v1, v2, v3, w => am_b (zM_hands w) fun r3 => if v3 < r3 then (if v2 = v3 then (zM_crosses_L12 k2 n v1 v2 (v3 + 1) w) else ((zM_isAhead v2 v3 w).bind fun r6 => if r6 = 0 then (zM_crosses_L12 k2 n v1 v2 (v3 + 1) w) else ((zM_figureOf v1 v2 w).bind fun r8 => (zM_figureOf v1 v3 w).bind fun r9 => if r8 < 0 then (zM_crosses_L12 k2 n v1 v2 (v3 + 1) w) else (if r9 < 0 then (zM_crosses_L12 k2 n v1 v2 (v3 + 1) w) else ((zM_placeOf v1 r8 w).bind fun r12 => (zM_placeOf v1 r9 w).bind fun r13 => if r13 < r12 then (some 1) else (zM_crosses_L12 k2 n v1 v2 (v3 + 1) w)))))) else (k2 v1 (v2 + 1) w)
set_option maxRecDepth 20000 in
theorem ezM_crosses_L12 {d : Nat} (hd : 2 ≤ d) (R : Int32) (k2 : Int32 → Int32 → zHM → Option (Int32)) (hk2 : ∀ (v1 : Int32) (v2 : Int32) (w : zHM), k2 v1 v2 w = some R → am_Rn 83 Xs am_P d 222 (2, [(0, .ref 83), (1, .int v1), (2, .int v2)], []) (am_sh, hx, w.1, w.2) (some (.int R), (am_sh, hx, w.1, w.2))) : ∀ (n : Nat) (v1 : Int32) (v2 : Int32) (v3 : Int32) (w : zHM), zM_crosses_L12 k2 n v1 v2 v3 w = some R → am_Rn 83 Xs am_P d 222 (12, [(0, .ref 83), (1, .int v1), (2, .int v2), (3, .int v3)], []) (am_sh, hx, w.1, w.2) (some (.int R), (am_sh, hx, w.1, w.2))
  | 0, _, _, _, _, hp => by cases hp
  | n + 1, v1, v2, v3, w, hp => by
    obtain ⟨d, rfl⟩ : ∃ k, d = k + 1 := ⟨d - 1, by omega⟩
    unfold zM_crosses_L12 at hp
    refine am_Rn.run am_h222 2 (F' := (14, [(0, .ref 83), (1, .int v1), (2, .int v2), (3, .int v3)], [.ref 83, .int v3])) (S' := (am_sh, hx, w.1, w.2)) rfl ?_
    obtain ⟨r3, h_r3, hp⟩ := am_b_e hp
    refine am_Rn.call am_h222 (mj := 156) (As := [.ref 83]) (F' := (17, [(0, .ref 83), (1, .int v1), (2, .int v2), (3, .int v3)], [.int v3])) (M' := am_m156) (r := some (.int r3)) (S1 := (am_sh, hx, w.1, w.2)) rfl am_h156 rfl (by subst h_r3; exact (ezM_hands (by omega) w)) ?_
    refine am_Rn.ite am_h222 (c := v3 < r3) (t := 20) (f := 88) (lv := [(0, .ref 83), (1, .int v1), (2, .int v2), (3, .int v3)]) (st := []) (S' := (am_sh, hx, w.1, w.2)) rfl hp (fun hc4 hp => ?_) (fun hc4 hp => ?_)
    · refine am_Rn.run am_h222 2 (F' := (22, [(0, .ref 83), (1, .int v1), (2, .int v2), (3, .int v3)], [.int v3, .int v2])) (S' := (am_sh, hx, w.1, w.2)) rfl ?_
      refine am_Rn.ite am_h222 (c := v2 = v3) (t := 82) (f := 25) (lv := [(0, .ref 83), (1, .int v1), (2, .int v2), (3, .int v3)]) (st := []) (S' := (am_sh, hx, w.1, w.2)) rfl hp (fun hc5 hp => ?_) (fun hc5 hp => ?_)
      · refine am_Rn.run am_h222 2 (F' := (12, [(3, .int (v3 + 1)), (0, .ref 83), (1, .int v1), (2, .int v2)], [])) (S' := (am_sh, hx, w.1, w.2)) rfl ?_
        refine am_Rn.sub [1, 2, 3, 0] rfl rfl ?_
        exact ezM_crosses_L12 hd R k2 hk2 n v1 v2 (v3 + 1) w hp
      · refine am_Rn.run am_h222 3 (F' := (28, [(0, .ref 83), (1, .int v1), (2, .int v2), (3, .int v3)], [.int v3, .int v2, .ref 83])) (S' := (am_sh, hx, w.1, w.2)) rfl ?_
        obtain ⟨r6, h_r6, hp⟩ := am_bind hp
        refine am_Rn.call am_h222 (mj := 218) (As := [.ref 83, .int v2, .int v3]) (F' := (31, [(0, .ref 83), (1, .int v1), (2, .int v2), (3, .int v3)], [])) (M' := am_m218) (r := some (.int r6)) (S1 := (am_sh, hx, w.1, w.2)) rfl am_h218 rfl (ezM_isAhead (by omega) v2 v3 w _ h_r6) ?_
        refine am_Rn.ite am_h222 (c := r6 = 0) (t := 34) (f := 37) (lv := [(0, .ref 83), (1, .int v1), (2, .int v2), (3, .int v3)]) (st := []) (S' := (am_sh, hx, w.1, w.2)) rfl hp (fun hc7 hp => ?_) (fun hc7 hp => ?_)
        · refine am_Rn.run am_h222 3 (F' := (12, [(3, .int (v3 + 1)), (0, .ref 83), (1, .int v1), (2, .int v2)], [])) (S' := (am_sh, hx, w.1, w.2)) rfl ?_
          refine am_Rn.sub [1, 2, 3, 0] rfl rfl ?_
          exact ezM_crosses_L12 hd R k2 hk2 n v1 v2 (v3 + 1) w hp
        · refine am_Rn.run am_h222 3 (F' := (40, [(0, .ref 83), (1, .int v1), (2, .int v2), (3, .int v3)], [.int v2, .int v1, .ref 83])) (S' := (am_sh, hx, w.1, w.2)) rfl ?_
          obtain ⟨r8, h_r8, hp⟩ := am_bind hp
          refine am_Rn.call am_h222 (mj := 220) (As := [.ref 83, .int v1, .int v2]) (F' := (43, [(0, .ref 83), (1, .int v1), (2, .int v2), (3, .int v3)], [])) (M' := am_m220) (r := some (.int r8)) (S1 := (am_sh, hx, w.1, w.2)) rfl am_h220 rfl (ezM_figureOf (by omega) v1 v2 w _ h_r8) ?_
          refine am_Rn.run am_h222 4 (F' := (48, [(4, .int r8), (0, .ref 83), (1, .int v1), (2, .int v2), (3, .int v3)], [.int v3, .int v1, .ref 83])) (S' := (am_sh, hx, w.1, w.2)) rfl ?_
          obtain ⟨r9, h_r9, hp⟩ := am_bind hp
          refine am_Rn.call am_h222 (mj := 220) (As := [.ref 83, .int v1, .int v3]) (F' := (51, [(4, .int r8), (0, .ref 83), (1, .int v1), (2, .int v2), (3, .int v3)], [])) (M' := am_m220) (r := some (.int r9)) (S1 := (am_sh, hx, w.1, w.2)) rfl am_h220 rfl (ezM_figureOf (by omega) v1 v3 w _ h_r9) ?_
          refine am_Rn.run am_h222 2 (F' := (55, [(5, .int r9), (4, .int r8), (0, .ref 83), (1, .int v1), (2, .int v2), (3, .int v3)], [.int r8])) (S' := (am_sh, hx, w.1, w.2)) rfl ?_
          refine am_Rn.ite am_h222 (c := r8 < 0) (t := 82) (f := 58) (lv := [(5, .int r9), (4, .int r8), (0, .ref 83), (1, .int v1), (2, .int v2), (3, .int v3)]) (st := []) (S' := (am_sh, hx, w.1, w.2)) rfl hp (fun hc10 hp => ?_) (fun hc10 hp => ?_)
          · refine am_Rn.run am_h222 2 (F' := (12, [(3, .int (v3 + 1)), (5, .int r9), (4, .int r8), (0, .ref 83), (1, .int v1), (2, .int v2)], [])) (S' := (am_sh, hx, w.1, w.2)) rfl ?_
            refine am_Rn.sub [3, 4, 5, 0] rfl rfl ?_
            exact ezM_crosses_L12 hd R k2 hk2 n v1 v2 (v3 + 1) w hp
          · refine am_Rn.run am_h222 1 (F' := (60, [(5, .int r9), (4, .int r8), (0, .ref 83), (1, .int v1), (2, .int v2), (3, .int v3)], [.int r9])) (S' := (am_sh, hx, w.1, w.2)) rfl ?_
            refine am_Rn.ite am_h222 (c := r9 < 0) (t := 82) (f := 63) (lv := [(5, .int r9), (4, .int r8), (0, .ref 83), (1, .int v1), (2, .int v2), (3, .int v3)]) (st := []) (S' := (am_sh, hx, w.1, w.2)) rfl hp (fun hc11 hp => ?_) (fun hc11 hp => ?_)
            · refine am_Rn.run am_h222 2 (F' := (12, [(3, .int (v3 + 1)), (5, .int r9), (4, .int r8), (0, .ref 83), (1, .int v1), (2, .int v2)], [])) (S' := (am_sh, hx, w.1, w.2)) rfl ?_
              refine am_Rn.sub [3, 4, 5, 0] rfl rfl ?_
              exact ezM_crosses_L12 hd R k2 hk2 n v1 v2 (v3 + 1) w hp
            · refine am_Rn.run am_h222 3 (F' := (67, [(5, .int r9), (4, .int r8), (0, .ref 83), (1, .int v1), (2, .int v2), (3, .int v3)], [.int r8, .int v1, .ref 83])) (S' := (am_sh, hx, w.1, w.2)) rfl ?_
              obtain ⟨r12, h_r12, hp⟩ := am_bind hp
              refine am_Rn.call am_h222 (mj := 159) (As := [.ref 83, .int v1, .int r8]) (F' := (70, [(5, .int r9), (4, .int r8), (0, .ref 83), (1, .int v1), (2, .int v2), (3, .int v3)], [])) (M' := am_m159) (r := some (.int r12)) (S1 := (am_sh, hx, w.1, w.2)) rfl am_h159 rfl (ezM_placeOf (by omega) v1 r8 w _ h_r12) ?_
              refine am_Rn.run am_h222 3 (F' := (74, [(5, .int r9), (4, .int r8), (0, .ref 83), (1, .int v1), (2, .int v2), (3, .int v3)], [.int r9, .int v1, .ref 83, .int r12])) (S' := (am_sh, hx, w.1, w.2)) rfl ?_
              obtain ⟨r13, h_r13, hp⟩ := am_bind hp
              refine am_Rn.call am_h222 (mj := 159) (As := [.ref 83, .int v1, .int r9]) (F' := (77, [(5, .int r9), (4, .int r8), (0, .ref 83), (1, .int v1), (2, .int v2), (3, .int v3)], [.int r12])) (M' := am_m159) (r := some (.int r13)) (S1 := (am_sh, hx, w.1, w.2)) rfl am_h159 rfl (ezM_placeOf (by omega) v1 r9 w _ h_r13) ?_
              refine am_Rn.ite am_h222 (c := r13 < r12) (t := 80) (f := 82) (lv := [(5, .int r9), (4, .int r8), (0, .ref 83), (1, .int v1), (2, .int v2), (3, .int v3)]) (st := []) (S' := (am_sh, hx, w.1, w.2)) rfl hp (fun hc14 hp => ?_) (fun hc14 hp => ?_)
              · refine am_Rn.run am_h222 1 (F' := (81, [(5, .int r9), (4, .int r8), (0, .ref 83), (1, .int v1), (2, .int v2), (3, .int v3)], [.int 1])) (S' := (am_sh, hx, w.1, w.2)) rfl ?_
                cases hp
                exact am_Rn.ret am_h222 rfl
              · refine am_Rn.run am_h222 2 (F' := (12, [(3, .int (v3 + 1)), (5, .int r9), (4, .int r8), (0, .ref 83), (1, .int v1), (2, .int v2)], [])) (S' := (am_sh, hx, w.1, w.2)) rfl ?_
                refine am_Rn.sub [3, 4, 5, 0] rfl rfl ?_
                exact ezM_crosses_L12 hd R k2 hk2 n v1 v2 (v3 + 1) w hp
    · refine am_Rn.run am_h222 2 (F' := (2, [(2, .int (v2 + 1)), (0, .ref 83), (1, .int v1), (3, .int v3)], [])) (S' := (am_sh, hx, w.1, w.2)) rfl ?_
      refine am_Rn.sub [1, 2, 0] rfl rfl ?_
      exact hk2 v1 (v2 + 1) w hp
def zM_crosses_L2 : Nat → Int32 → Int32 → zHM → Option (Int32)
  | 0, _, _, _ => none
  | n + 1, v1, v2, w => am_b (zM_hands w) fun r1 => if v2 < r1 then (zM_crosses_L12 (fun v1 v2 w => zM_crosses_L2 n v1 v2 w) am_N v1 v2 0 w) else (some 0)
set_option maxRecDepth 20000 in
theorem ezM_crosses_L2 {d : Nat} (hd : 2 ≤ d) (R : Int32) : ∀ (n : Nat) (v1 : Int32) (v2 : Int32) (w : zHM), zM_crosses_L2 n v1 v2 w = some R → am_Rn 83 Xs am_P d 222 (2, [(0, .ref 83), (1, .int v1), (2, .int v2)], []) (am_sh, hx, w.1, w.2) (some (.int R), (am_sh, hx, w.1, w.2))
  | 0, _, _, _, hp => by cases hp
  | n + 1, v1, v2, w, hp => by
    obtain ⟨d, rfl⟩ : ∃ k, d = k + 1 := ⟨d - 1, by omega⟩
    unfold zM_crosses_L2 at hp
    refine am_Rn.run am_h222 2 (F' := (4, [(0, .ref 83), (1, .int v1), (2, .int v2)], [.ref 83, .int v2])) (S' := (am_sh, hx, w.1, w.2)) rfl ?_
    obtain ⟨r1, h_r1, hp⟩ := am_b_e hp
    refine am_Rn.call am_h222 (mj := 156) (As := [.ref 83]) (F' := (7, [(0, .ref 83), (1, .int v1), (2, .int v2)], [.int v2])) (M' := am_m156) (r := some (.int r1)) (S1 := (am_sh, hx, w.1, w.2)) rfl am_h156 rfl (by subst h_r1; exact (ezM_hands (by omega) w)) ?_
    refine am_Rn.ite am_h222 (c := v2 < r1) (t := 10) (f := 94) (lv := [(0, .ref 83), (1, .int v1), (2, .int v2)]) (st := []) (S' := (am_sh, hx, w.1, w.2)) rfl hp (fun hc2 hp => ?_) (fun hc2 hp => ?_)
    · refine am_Rn.run am_h222 2 (F' := (12, [(3, .int 0), (0, .ref 83), (1, .int v1), (2, .int v2)], [])) (S' := (am_sh, hx, w.1, w.2)) rfl ?_
      refine am_Rn.sub [1, 2, 3, 0] rfl rfl ?_
      exact ezM_crosses_L12 hd R (fun v1 v2 w => zM_crosses_L2 n v1 v2 w) (fun v1 v2 w hp => ezM_crosses_L2 hd R n v1 v2 w hp) am_N v1 v2 0 w hp
    · refine am_Rn.run am_h222 1 (F' := (95, [(0, .ref 83), (1, .int v1), (2, .int v2)], [.int 0])) (S' := (am_sh, hx, w.1, w.2)) rfl ?_
      cases hp
      exact am_Rn.ret am_h222 rfl
def zM_crosses (v1 : Int32) (w : zHM) : Option (Int32) := zM_crosses_L2 am_N v1 0 w
set_option maxRecDepth 20000 in
theorem ezM_crosses {d : Nat} (hd : 2 ≤ d) (v1 : Int32) (w : zHM) (R : Int32) (hp : zM_crosses v1 w = some R) : am_Ev 83 Xs am_P d 222 [.ref 83, .int v1] (am_sh, hx, w.1, w.2) (some (.int R), (am_sh, hx, w.1, w.2)) := by
  obtain ⟨d, rfl⟩ : ∃ k, d = k + 1 := ⟨d - 1, by omega⟩
  unfold zM_crosses at hp
  show am_Rn 83 Xs am_P _ 222 (0, [(0, .ref 83), (1, .int v1)], []) _ _
  refine am_Rn.run am_h222 2 (F' := (2, [(2, .int 0), (0, .ref 83), (1, .int v1)], [])) (S' := (am_sh, hx, w.1, w.2)) rfl ?_
  refine am_Rn.sub [1, 2, 0] rfl rfl ?_
  exact ezM_crosses_L2 hd R am_N v1 0 w hp
/-- SixHandsModel.name(II)V [83] -/
def zM_name (v1 : Int32) (v2 : Int32) (w : zHM) : Option (zHM) := am_b ((va_up w.1 89 (upd (w.1 89) 0 v2), w.2)) fun w1 => (zM_kindOf v2 w1).bind fun r2 => am_b ((va_up w1.1 89 (upd (w1.1 89) 1 r2), w1.2)) fun w3 => (zM_placeOf v1 v2 w3).bind fun r4 => am_b ((va_up w3.1 89 (upd (w3.1 89) 2 r4), w3.2)) fun w5 => am_b ((va_up w5.1 89 (upd (w5.1 89) 3 v1), w5.2)) fun w6 => some w6
set_option maxRecDepth 20000 in
theorem ezM_name {d : Nat} (hd : 1 ≤ d) (v1 : Int32) (v2 : Int32) (w : zHM) (R : zHM) (hp : zM_name v1 v2 w = some R) : am_Ev 83 Xs am_P d 213 [.ref 83, .int v1, .int v2] (am_sh, hx, w.1, w.2) (none, (am_sh, hx, R.1, R.2)) := by
  obtain ⟨d, rfl⟩ : ∃ k, d = k + 1 := ⟨d - 1, by omega⟩
  unfold zM_name at hp
  show am_Rn 83 Xs am_P _ 213 (0, [(0, .ref 83), (1, .int v1), (2, .int v2)], []) _ _
  obtain ⟨w1, h_w1, hp⟩ := am_b_e hp
  refine am_Rn.run am_h213 10 (F' := (14, [(0, .ref 83), (1, .int v1), (2, .int v2)], [.int v2, .ref 83, .int 1, .ref 89])) (S' := (am_sh, hx, w1.1, w1.2)) (by subst h_w1; rfl) ?_
  obtain ⟨r2, h_r2, hp⟩ := am_bind hp
  refine am_Rn.call am_h213 (mj := 158) (As := [.ref 83, .int v2]) (F' := (17, [(0, .ref 83), (1, .int v1), (2, .int v2)], [.int 1, .ref 89])) (M' := am_m158) (r := some (.int r2)) (S1 := (am_sh, hx, w1.1, w1.2)) rfl am_h158 rfl (ezM_kindOf (by omega) v2 w1 _ h_r2) ?_
  obtain ⟨w3, h_w3, hp⟩ := am_b_e hp
  refine am_Rn.run am_h213 7 (F' := (26, [(0, .ref 83), (1, .int v1), (2, .int v2)], [.int v2, .int v1, .ref 83, .int 2, .ref 89])) (S' := (am_sh, hx, w3.1, w3.2)) (by subst h_w3; rfl) ?_
  obtain ⟨r4, h_r4, hp⟩ := am_bind hp
  refine am_Rn.call am_h213 (mj := 159) (As := [.ref 83, .int v1, .int v2]) (F' := (29, [(0, .ref 83), (1, .int v1), (2, .int v2)], [.int 2, .ref 89])) (M' := am_m159) (r := some (.int r4)) (S1 := (am_sh, hx, w3.1, w3.2)) rfl am_h159 rfl (ezM_placeOf (by omega) v1 v2 w3 _ h_r4) ?_
  obtain ⟨w5, h_w5, hp⟩ := am_b_e hp
  obtain ⟨w6, h_w6, hp⟩ := am_b_e hp
  refine am_Rn.run am_h213 6 (F' := (37, [(0, .ref 83), (1, .int v1), (2, .int v2)], [])) (S' := (am_sh, hx, w6.1, w6.2)) (by subst h_w5; subst h_w6; rfl) ?_
  cases hp
  exact am_Rn.ret am_h213 rfl
/-- SixHandsModel.lowest(I)I [] -/
def zM_lowest_L2 : Nat → Int32 → Int32 → Option (Int32)
  | 0, _, _ => none
  | n + 1, v0, v1 => if ((v0 >>> (v1 &&& 31)) &&& 1) = 0 then (zM_lowest_L2 n v0 (v1 + 1)) else (some v1)
set_option maxRecDepth 20000 in
theorem ezM_lowest_L2 {d : Nat} (hd : 0 ≤ d) (R : Int32) : ∀ (n : Nat) (v0 : Int32) (v1 : Int32), zM_lowest_L2 n v0 v1 = some R → am_Rn 83 Xs am_P d 214 (2, [(0, .int v0), (1, .int v1)], []) S (some (.int R), S)
  | 0, _, _, hp => by cases hp
  | n + 1, v0, v1, hp => by
    unfold zM_lowest_L2 at hp
    refine am_Rn.run am_h214 5 (F' := (7, [(0, .int v0), (1, .int v1)], [.int ((v0 >>> (v1 &&& 31)) &&& 1)])) (S' := S) rfl ?_
    refine am_Rn.ite am_h214 (c := ((v0 >>> (v1 &&& 31)) &&& 1) = 0) (t := 10) (f := 16) (lv := [(0, .int v0), (1, .int v1)]) (st := []) (S' := S) rfl hp (fun hc1 hp => ?_) (fun hc1 hp => ?_)
    · refine am_Rn.run am_h214 2 (F' := (2, [(1, .int (v1 + 1)), (0, .int v0)], [])) (S' := S) rfl ?_
      refine am_Rn.sub [1, 0] rfl rfl ?_
      exact ezM_lowest_L2 hd R n v0 (v1 + 1) hp
    · refine am_Rn.run am_h214 1 (F' := (17, [(0, .int v0), (1, .int v1)], [.int v1])) (S' := S) rfl ?_
      cases hp
      exact am_Rn.ret am_h214 rfl
def zM_lowest (v0 : Int32) : Option (Int32) := zM_lowest_L2 am_N v0 0
set_option maxRecDepth 20000 in
theorem ezM_lowest {d : Nat} (hd : 0 ≤ d) (v0 : Int32) (R : Int32) (hp : zM_lowest v0 = some R) : am_Ev 83 Xs am_P d 214 [.int v0] S (some (.int R), S) := by
  unfold zM_lowest at hp
  show am_Rn 83 Xs am_P _ 214 (0, [(0, .int v0)], []) _ _
  refine am_Rn.run am_h214 2 (F' := (2, [(1, .int 0), (0, .int v0)], [])) (S' := S) rfl ?_
  refine am_Rn.sub [1, 0] rfl rfl ?_
  exact ezM_lowest_L2 hd R am_N v0 0 hp
/-- SixHandsModel.clauseOf(I)I [83] -/
def zM_clauseOf_L2 : Nat → Int32 → Int32 → zHM → Option (Int32)
  | 0, _, _, _ => none
  | n + 1, v1, v2, w => if (w.1 84 5) < 0 then (some (-1)) else (am_ix 3160 (790 * (w.1 84 5)) (if v2 < (w.1 86 ((790 * (w.1 84 5)).toNatClampNeg)) then (am_ix 3160 (((790 * (w.1 84 5)) + 1) + (3 * v2)) (if (w.1 86 ((((790 * (w.1 84 5)) + 1) + (3 * v2)).toNatClampNeg)) = v1 then (some v2) else (zM_clauseOf_L2 n v1 (v2 + 1) w))) else (some (-1))))
set_option maxRecDepth 20000 in
theorem ezM_clauseOf_L2 {d : Nat} (hd : 0 ≤ d) (R : Int32) : ∀ (n : Nat) (v1 : Int32) (v2 : Int32) (w : zHM), zM_clauseOf_L2 n v1 v2 w = some R → am_Rn 83 Xs am_P d 211 (2, [(0, .ref 83), (1, .int v1), (2, .int v2)], []) (am_sh, hx, w.1, w.2) (some (.int R), (am_sh, hx, w.1, w.2))
  | 0, _, _, _, hp => by cases hp
  | n + 1, v1, v2, w, hp => by
    unfold zM_clauseOf_L2 at hp
    refine am_Rn.run am_h211 4 (F' := (8, [(0, .ref 83), (1, .int v1), (2, .int v2)], [.int (w.1 84 5)])) (S' := (am_sh, hx, w.1, w.2)) rfl ?_
    refine am_Rn.ite am_h211 (c := (w.1 84 5) < 0) (t := 63) (f := 11) (lv := [(0, .ref 83), (1, .int v1), (2, .int v2)]) (st := []) (S' := (am_sh, hx, w.1, w.2)) rfl hp (fun hc1 hp => ?_) (fun hc1 hp => ?_)
    · refine am_Rn.run am_h211 1 (F' := (64, [(0, .ref 83), (1, .int v1), (2, .int v2)], [.int (-1)])) (S' := (am_sh, hx, w.1, w.2)) rfl ?_
      cases hp
      exact am_Rn.ret am_h211 rfl
    · refine am_Rn.run am_h211 9 (F' := (26, [(0, .ref 83), (1, .int v1), (2, .int v2)], [.int (790 * (w.1 84 5)), .ref 86, .int v2])) (S' := (am_sh, hx, w.1, w.2)) rfl ?_
      obtain ⟨hn2, hp⟩ := am_ix_e hp
      refine am_Rn.stepG am_h211 (c := (790 * (w.1 84 5)) < 0 ∨ 3160 ≤ (790 * (w.1 84 5)).toNatClampNeg) (F' := (27, [(0, .ref 83), (1, .int v1), (2, .int v2)], [.int (w.1 86 ((790 * (w.1 84 5)).toNatClampNeg)), .int v2])) (S' := (am_sh, hx, w.1, w.2)) rfl hn2 ?_
      refine am_Rn.ite am_h211 (c := v2 < (w.1 86 ((790 * (w.1 84 5)).toNatClampNeg))) (t := 30) (f := 63) (lv := [(0, .ref 83), (1, .int v1), (2, .int v2)]) (st := []) (S' := (am_sh, hx, w.1, w.2)) rfl hp (fun hc3 hp => ?_) (fun hc3 hp => ?_)
      · refine am_Rn.run am_h211 14 (F' := (50, [(0, .ref 83), (1, .int v1), (2, .int v2)], [.int (((790 * (w.1 84 5)) + 1) + (3 * v2)), .ref 86])) (S' := (am_sh, hx, w.1, w.2)) rfl ?_
        obtain ⟨hn4, hp⟩ := am_ix_e hp
        refine am_Rn.stepG am_h211 (c := (((790 * (w.1 84 5)) + 1) + (3 * v2)) < 0 ∨ 3160 ≤ (((790 * (w.1 84 5)) + 1) + (3 * v2)).toNatClampNeg) (F' := (51, [(0, .ref 83), (1, .int v1), (2, .int v2)], [.int (w.1 86 ((((790 * (w.1 84 5)) + 1) + (3 * v2)).toNatClampNeg))])) (S' := (am_sh, hx, w.1, w.2)) rfl hn4 ?_
        refine am_Rn.run am_h211 1 (F' := (52, [(0, .ref 83), (1, .int v1), (2, .int v2)], [.int v1, .int (w.1 86 ((((790 * (w.1 84 5)) + 1) + (3 * v2)).toNatClampNeg))])) (S' := (am_sh, hx, w.1, w.2)) rfl ?_
        refine am_Rn.ite am_h211 (c := (w.1 86 ((((790 * (w.1 84 5)) + 1) + (3 * v2)).toNatClampNeg)) = v1) (t := 55) (f := 57) (lv := [(0, .ref 83), (1, .int v1), (2, .int v2)]) (st := []) (S' := (am_sh, hx, w.1, w.2)) rfl hp (fun hc5 hp => ?_) (fun hc5 hp => ?_)
        · refine am_Rn.run am_h211 1 (F' := (56, [(0, .ref 83), (1, .int v1), (2, .int v2)], [.int v2])) (S' := (am_sh, hx, w.1, w.2)) rfl ?_
          cases hp
          exact am_Rn.ret am_h211 rfl
        · refine am_Rn.run am_h211 2 (F' := (2, [(2, .int (v2 + 1)), (0, .ref 83), (1, .int v1)], [])) (S' := (am_sh, hx, w.1, w.2)) rfl ?_
          refine am_Rn.sub [1, 2, 0] rfl rfl ?_
          exact ezM_clauseOf_L2 hd R n v1 (v2 + 1) w hp
      · refine am_Rn.run am_h211 1 (F' := (64, [(0, .ref 83), (1, .int v1), (2, .int v2)], [.int (-1)])) (S' := (am_sh, hx, w.1, w.2)) rfl ?_
        cases hp
        exact am_Rn.ret am_h211 rfl
def zM_clauseOf (v1 : Int32) (w : zHM) : Option (Int32) := zM_clauseOf_L2 am_N v1 0 w
set_option maxRecDepth 20000 in
theorem ezM_clauseOf {d : Nat} (hd : 0 ≤ d) (v1 : Int32) (w : zHM) (R : Int32) (hp : zM_clauseOf v1 w = some R) : am_Ev 83 Xs am_P d 211 [.ref 83, .int v1] (am_sh, hx, w.1, w.2) (some (.int R), (am_sh, hx, w.1, w.2)) := by
  unfold zM_clauseOf at hp
  show am_Rn 83 Xs am_P _ 211 (0, [(0, .ref 83), (1, .int v1)], []) _ _
  refine am_Rn.run am_h211 2 (F' := (2, [(2, .int 0), (0, .ref 83), (1, .int v1)], [])) (S' := (am_sh, hx, w.1, w.2)) rfl ?_
  refine am_Rn.sub [1, 2, 0] rfl rfl ?_
  exact ezM_clauseOf_L2 hd R am_N v1 0 w hp
/-- SixHandsModel.clip(J)J [] -/
def zM_clip (v0 : Int64) : Int64 := if 0 < (lg_cmp v0 1000000) then (1000000) else (if (lg_cmp v0 (-1000000)) < 0 then ((-1000000)) else (v0))
set_option maxRecDepth 20000 in
theorem ezM_clip {d : Nat} (hd : 0 ≤ d) (v0 : Int64) : am_Ev 83 Xs am_P d 207 [.long v0] S (some (.long ((zM_clip v0))), S) := by
  obtain ⟨R, hp⟩ : ∃ R, zM_clip v0 = R := ⟨_, rfl⟩
  rw [hp]
  unfold zM_clip at hp
  show am_Rn 83 Xs am_P _ 207 (0, [(0, .long v0)], []) _ _
  refine am_Rn.run am_h207 3 (F' := (5, [(0, .long v0)], [.int (lg_cmp v0 1000000)])) (S' := S) rfl ?_
  refine am_Rn.ite am_h207 (c := 0 < (lg_cmp v0 1000000)) (t := 8) (f := 14) (lv := [(0, .long v0)]) (st := []) (S' := S) rfl hp (fun hc1 hp => ?_) (fun hc1 hp => ?_)
  · refine am_Rn.run am_h207 2 (F' := (29, [(0, .long v0)], [.long 1000000])) (S' := S) rfl ?_
    subst hp
    exact am_Rn.ret am_h207 rfl
  · refine am_Rn.run am_h207 3 (F' := (19, [(0, .long v0)], [.int (lg_cmp v0 (-1000000))])) (S' := S) rfl ?_
    refine am_Rn.ite am_h207 (c := (lg_cmp v0 (-1000000)) < 0) (t := 22) (f := 28) (lv := [(0, .long v0)]) (st := []) (S' := S) rfl hp (fun hc2 hp => ?_) (fun hc2 hp => ?_)
    · refine am_Rn.run am_h207 2 (F' := (29, [(0, .long v0)], [.long (-1000000)])) (S' := S) rfl ?_
      subst hp
      exact am_Rn.ret am_h207 rfl
    · refine am_Rn.run am_h207 1 (F' := (29, [(0, .long v0)], [.long v0])) (S' := S) rfl ?_
      subst hp
      exact am_Rn.ret am_h207 rfl
/-- SixHandsModel.two(IJJ)J [] -/
def zM_two (v0 : Int32) (v1 : Int64) (v3 : Int64) : Option (Int64) := if v0 = 3 then (am_b (zM_clip (v1 + v3)) fun r2 => some r2) else if v0 = 4 then (am_b (zM_clip (v1 - v3)) fun r4 => some r4) else if v0 = 5 then (am_b (zM_clip (v1 * v3)) fun r6 => some r6) else (if (lg_cmp v3 0) = 0 then (some 0) else (am_no (v3 = 0) (am_b (zM_clip (v1 / v3)) fun r9 => some r9)))
set_option maxRecDepth 20000 in
theorem ezM_two {d : Nat} (hd : 1 ≤ d) (v0 : Int32) (v1 : Int64) (v3 : Int64) (R : Int64) (hp : zM_two v0 v1 v3 = some R) : am_Ev 83 Xs am_P d 208 [.int v0, .long v1, .long v3] S (some (.long R), S) := by
  obtain ⟨d, rfl⟩ : ∃ k, d = k + 1 := ⟨d - 1, by omega⟩
  unfold zM_two at hp
  show am_Rn 83 Xs am_P _ 208 (0, [(0, .int v0), (1, .long v1), (3, .long v3)], []) _ _
  refine am_Rn.run am_h208 1 (F' := (1, [(0, .int v0), (1, .long v1), (3, .long v3)], [.int v0])) (S' := S) rfl ?_
  refine am_Rn.step am_h208 (F' := (am_sw v0 3 49 [28, 35, 42], [(0, .int v0), (1, .long v1), (3, .long v3)], [])) (S' := S) rfl ?_
  refine am_ite hp (fun hc1 hp => ?_) (fun hc1 hp => ?_)
  · rw [show am_sw v0 3 49 [28, 35, 42] = 28 from by subst hc1; rfl]
    refine am_Rn.run am_h208 3 (F' := (31, [(0, .int v0), (1, .long v1), (3, .long v3)], [.long (v1 + v3)])) (S' := S) rfl ?_
    obtain ⟨r2, h_r2, hp⟩ := am_b_e hp
    refine am_Rn.call am_h208 (mj := 207) (As := [.long (v1 + v3)]) (F' := (34, [(0, .int v0), (1, .long v1), (3, .long v3)], [])) (M' := am_m207) (r := some (.long r2)) (S1 := S) rfl am_h207 rfl (by subst h_r2; exact (ezM_clip (by omega) (v1 + v3))) ?_
    cases hp
    exact am_Rn.ret am_h208 rfl
  refine am_ite hp (fun hc3 hp => ?_) (fun hc3 hp => ?_)
  · rw [show am_sw v0 3 49 [28, 35, 42] = 35 from by subst hc3; rfl]
    refine am_Rn.run am_h208 3 (F' := (38, [(0, .int v0), (1, .long v1), (3, .long v3)], [.long (v1 - v3)])) (S' := S) rfl ?_
    obtain ⟨r4, h_r4, hp⟩ := am_b_e hp
    refine am_Rn.call am_h208 (mj := 207) (As := [.long (v1 - v3)]) (F' := (41, [(0, .int v0), (1, .long v1), (3, .long v3)], [])) (M' := am_m207) (r := some (.long r4)) (S1 := S) rfl am_h207 rfl (by subst h_r4; exact (ezM_clip (by omega) (v1 - v3))) ?_
    cases hp
    exact am_Rn.ret am_h208 rfl
  refine am_ite hp (fun hc5 hp => ?_) (fun hc5 hp => ?_)
  · rw [show am_sw v0 3 49 [28, 35, 42] = 42 from by subst hc5; rfl]
    refine am_Rn.run am_h208 3 (F' := (45, [(0, .int v0), (1, .long v1), (3, .long v3)], [.long (v1 * v3)])) (S' := S) rfl ?_
    obtain ⟨r6, h_r6, hp⟩ := am_b_e hp
    refine am_Rn.call am_h208 (mj := 207) (As := [.long (v1 * v3)]) (F' := (48, [(0, .int v0), (1, .long v1), (3, .long v3)], [])) (M' := am_m207) (r := some (.long r6)) (S1 := S) rfl am_h207 rfl (by subst h_r6; exact (ezM_clip (by omega) (v1 * v3))) ?_
    cases hp
    exact am_Rn.ret am_h208 rfl
  · rw [show am_sw v0 3 49 [28, 35, 42] = 49 from (if_neg hc1).trans ((if_neg hc3).trans ((if_neg hc5).trans (rfl)))]
    refine am_Rn.run am_h208 3 (F' := (52, [(0, .int v0), (1, .long v1), (3, .long v3)], [.int (lg_cmp v3 0)])) (S' := S) rfl ?_
    refine am_Rn.ite am_h208 (c := (lg_cmp v3 0) = 0) (t := 55) (f := 59) (lv := [(0, .int v0), (1, .long v1), (3, .long v3)]) (st := []) (S' := S) rfl hp (fun hc7 hp => ?_) (fun hc7 hp => ?_)
    · refine am_Rn.run am_h208 2 (F' := (65, [(0, .int v0), (1, .long v1), (3, .long v3)], [.long 0])) (S' := S) rfl ?_
      cases hp
      exact am_Rn.ret am_h208 rfl
    · refine am_Rn.run am_h208 2 (F' := (61, [(0, .int v0), (1, .long v1), (3, .long v3)], [.long v3, .long v1])) (S' := S) rfl ?_
      obtain ⟨hn8, hp⟩ := am_no_e hp
      refine am_Rn.stepG am_h208 (c := v3 = 0) (F' := (62, [(0, .int v0), (1, .long v1), (3, .long v3)], [.long (v1 / v3)])) (S' := S) rfl hn8 ?_
      obtain ⟨r9, h_r9, hp⟩ := am_b_e hp
      refine am_Rn.call am_h208 (mj := 207) (As := [.long (v1 / v3)]) (F' := (65, [(0, .int v0), (1, .long v1), (3, .long v3)], [])) (M' := am_m207) (r := some (.long r9)) (S1 := S) rfl am_h207 rfl (by subst h_r9; exact (ezM_clip (by omega) (v1 / v3))) ?_
      cases hp
      exact am_Rn.ret am_h208 rfl
/-- SixHandsModel.isAsked(IJJ)Z [] -/
def zM_isAsked (v0 : Int32) (v1 : Int64) (v3 : Int64) : Int32 := if v0 = 10 then (if (lg_cmp v1 v3) < 0 then (1) else (0)) else (if v0 = 11 then (if 0 < (lg_cmp v1 v3) then (0) else (1)) else (if v0 = 12 then (if 0 < (lg_cmp v1 v3) then (1) else (0)) else (if v0 = 13 then (if (lg_cmp v1 v3) < 0 then (0) else (1)) else (if v0 = 14 then (if (lg_cmp v1 v3) = 0 then (1) else (0)) else (if (lg_cmp v1 v3) = 0 then (0) else (1))))))
set_option maxRecDepth 20000 in
theorem ezM_isAsked {d : Nat} (hd : 0 ≤ d) (v0 : Int32) (v1 : Int64) (v3 : Int64) : am_Ev 83 Xs am_P d 209 [.int v0, .long v1, .long v3] S (some (.int ((zM_isAsked v0 v1 v3))), S) := by
  obtain ⟨R, hp⟩ : ∃ R, zM_isAsked v0 v1 v3 = R := ⟨_, rfl⟩
  rw [hp]
  unfold zM_isAsked at hp
  show am_Rn 83 Xs am_P _ 209 (0, [(0, .int v0), (1, .long v1), (3, .long v3)], []) _ _
  refine am_Rn.run am_h209 2 (F' := (3, [(0, .int v0), (1, .long v1), (3, .long v3)], [.int 10, .int v0])) (S' := S) rfl ?_
  refine am_Rn.ite am_h209 (c := v0 = 10) (t := 6) (f := 20) (lv := [(0, .int v0), (1, .long v1), (3, .long v3)]) (st := []) (S' := S) rfl hp (fun hc1 hp => ?_) (fun hc1 hp => ?_)
  · refine am_Rn.run am_h209 3 (F' := (9, [(0, .int v0), (1, .long v1), (3, .long v3)], [.int (lg_cmp v1 v3)])) (S' := S) rfl ?_
    refine am_Rn.ite am_h209 (c := (lg_cmp v1 v3) < 0) (t := 12) (f := 16) (lv := [(0, .int v0), (1, .long v1), (3, .long v3)]) (st := []) (S' := S) rfl hp (fun hc2 hp => ?_) (fun hc2 hp => ?_)
    · refine am_Rn.run am_h209 2 (F' := (111, [(0, .int v0), (1, .long v1), (3, .long v3)], [.int 1])) (S' := S) rfl ?_
      subst hp
      exact am_Rn.ret am_h209 rfl
    · refine am_Rn.run am_h209 2 (F' := (111, [(0, .int v0), (1, .long v1), (3, .long v3)], [.int 0])) (S' := S) rfl ?_
      subst hp
      exact am_Rn.ret am_h209 rfl
  · refine am_Rn.run am_h209 2 (F' := (23, [(0, .int v0), (1, .long v1), (3, .long v3)], [.int 11, .int v0])) (S' := S) rfl ?_
    refine am_Rn.ite am_h209 (c := v0 = 11) (t := 26) (f := 40) (lv := [(0, .int v0), (1, .long v1), (3, .long v3)]) (st := []) (S' := S) rfl hp (fun hc3 hp => ?_) (fun hc3 hp => ?_)
    · refine am_Rn.run am_h209 3 (F' := (29, [(0, .int v0), (1, .long v1), (3, .long v3)], [.int (lg_cmp v1 v3)])) (S' := S) rfl ?_
      refine am_Rn.ite am_h209 (c := 0 < (lg_cmp v1 v3)) (t := 36) (f := 32) (lv := [(0, .int v0), (1, .long v1), (3, .long v3)]) (st := []) (S' := S) rfl hp (fun hc4 hp => ?_) (fun hc4 hp => ?_)
      · refine am_Rn.run am_h209 2 (F' := (111, [(0, .int v0), (1, .long v1), (3, .long v3)], [.int 0])) (S' := S) rfl ?_
        subst hp
        exact am_Rn.ret am_h209 rfl
      · refine am_Rn.run am_h209 2 (F' := (111, [(0, .int v0), (1, .long v1), (3, .long v3)], [.int 1])) (S' := S) rfl ?_
        subst hp
        exact am_Rn.ret am_h209 rfl
    · refine am_Rn.run am_h209 2 (F' := (43, [(0, .int v0), (1, .long v1), (3, .long v3)], [.int 12, .int v0])) (S' := S) rfl ?_
      refine am_Rn.ite am_h209 (c := v0 = 12) (t := 46) (f := 60) (lv := [(0, .int v0), (1, .long v1), (3, .long v3)]) (st := []) (S' := S) rfl hp (fun hc5 hp => ?_) (fun hc5 hp => ?_)
      · refine am_Rn.run am_h209 3 (F' := (49, [(0, .int v0), (1, .long v1), (3, .long v3)], [.int (lg_cmp v1 v3)])) (S' := S) rfl ?_
        refine am_Rn.ite am_h209 (c := 0 < (lg_cmp v1 v3)) (t := 52) (f := 56) (lv := [(0, .int v0), (1, .long v1), (3, .long v3)]) (st := []) (S' := S) rfl hp (fun hc6 hp => ?_) (fun hc6 hp => ?_)
        · refine am_Rn.run am_h209 2 (F' := (111, [(0, .int v0), (1, .long v1), (3, .long v3)], [.int 1])) (S' := S) rfl ?_
          subst hp
          exact am_Rn.ret am_h209 rfl
        · refine am_Rn.run am_h209 2 (F' := (111, [(0, .int v0), (1, .long v1), (3, .long v3)], [.int 0])) (S' := S) rfl ?_
          subst hp
          exact am_Rn.ret am_h209 rfl
      · refine am_Rn.run am_h209 2 (F' := (63, [(0, .int v0), (1, .long v1), (3, .long v3)], [.int 13, .int v0])) (S' := S) rfl ?_
        refine am_Rn.ite am_h209 (c := v0 = 13) (t := 66) (f := 80) (lv := [(0, .int v0), (1, .long v1), (3, .long v3)]) (st := []) (S' := S) rfl hp (fun hc7 hp => ?_) (fun hc7 hp => ?_)
        · refine am_Rn.run am_h209 3 (F' := (69, [(0, .int v0), (1, .long v1), (3, .long v3)], [.int (lg_cmp v1 v3)])) (S' := S) rfl ?_
          refine am_Rn.ite am_h209 (c := (lg_cmp v1 v3) < 0) (t := 76) (f := 72) (lv := [(0, .int v0), (1, .long v1), (3, .long v3)]) (st := []) (S' := S) rfl hp (fun hc8 hp => ?_) (fun hc8 hp => ?_)
          · refine am_Rn.run am_h209 2 (F' := (111, [(0, .int v0), (1, .long v1), (3, .long v3)], [.int 0])) (S' := S) rfl ?_
            subst hp
            exact am_Rn.ret am_h209 rfl
          · refine am_Rn.run am_h209 2 (F' := (111, [(0, .int v0), (1, .long v1), (3, .long v3)], [.int 1])) (S' := S) rfl ?_
            subst hp
            exact am_Rn.ret am_h209 rfl
        · refine am_Rn.run am_h209 2 (F' := (83, [(0, .int v0), (1, .long v1), (3, .long v3)], [.int 14, .int v0])) (S' := S) rfl ?_
          refine am_Rn.ite am_h209 (c := v0 = 14) (t := 86) (f := 100) (lv := [(0, .int v0), (1, .long v1), (3, .long v3)]) (st := []) (S' := S) rfl hp (fun hc9 hp => ?_) (fun hc9 hp => ?_)
          · refine am_Rn.run am_h209 3 (F' := (89, [(0, .int v0), (1, .long v1), (3, .long v3)], [.int (lg_cmp v1 v3)])) (S' := S) rfl ?_
            refine am_Rn.ite am_h209 (c := (lg_cmp v1 v3) = 0) (t := 92) (f := 96) (lv := [(0, .int v0), (1, .long v1), (3, .long v3)]) (st := []) (S' := S) rfl hp (fun hc10 hp => ?_) (fun hc10 hp => ?_)
            · refine am_Rn.run am_h209 2 (F' := (111, [(0, .int v0), (1, .long v1), (3, .long v3)], [.int 1])) (S' := S) rfl ?_
              subst hp
              exact am_Rn.ret am_h209 rfl
            · refine am_Rn.run am_h209 2 (F' := (111, [(0, .int v0), (1, .long v1), (3, .long v3)], [.int 0])) (S' := S) rfl ?_
              subst hp
              exact am_Rn.ret am_h209 rfl
          · refine am_Rn.run am_h209 3 (F' := (103, [(0, .int v0), (1, .long v1), (3, .long v3)], [.int (lg_cmp v1 v3)])) (S' := S) rfl ?_
            refine am_Rn.ite am_h209 (c := (lg_cmp v1 v3) = 0) (t := 110) (f := 106) (lv := [(0, .int v0), (1, .long v1), (3, .long v3)]) (st := []) (S' := S) rfl hp (fun hc11 hp => ?_) (fun hc11 hp => ?_)
            · refine am_Rn.run am_h209 1 (F' := (111, [(0, .int v0), (1, .long v1), (3, .long v3)], [.int 0])) (S' := S) rfl ?_
              subst hp
              exact am_Rn.ret am_h209 rfl
            · refine am_Rn.run am_h209 2 (F' := (111, [(0, .int v0), (1, .long v1), (3, .long v3)], [.int 1])) (S' := S) rfl ?_
              subst hp
              exact am_Rn.ret am_h209 rfl
end
