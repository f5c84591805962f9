section
variable {Xs : Nat × (Nat → Int32)} {hx hm : Nat → Nat → Int32} {g : Nat → Nat → Int64} {S : am_S}
/-- SixHands.least()I [0] -/
def zH_least_L15 (k2 : Int32 → (Nat → Nat → Int32) → Option (Int32 × (Nat → Nat → Int32))) : Nat → Int32 → Int32 → (Nat → Nat → Int32) → Option (Int32 × (Nat → Nat → Int32))
  | 0, _, _, _ => none
  | n + 1, v1, v2, h => if v2 < ((1 : Int32) <<< ((h 1 1) &&& 31)) then (am_b (zD_bitCount v2) fun r3 => if r3 = v1 then ((zH_fewest v2 h).bind fun r5 => if r5.1 = (-1) then (zH_least_L15 k2 n v1 (v2 + 1) r5.2) else (some ((v2, r5.2)))) else (zH_least_L15 k2 n v1 (v2 + 1) h)) else (k2 (v1 + 1) h)
set_option maxRecDepth 20000 in
theorem ezH_least_L15 {d : Nat} (hd : 13 ≤ d) (R : Int32 × (Nat → Nat → Int32)) (k2 : Int32 → (Nat → Nat → Int32) → Option (Int32 × (Nat → Nat → Int32))) (hk2 : ∀ (v1 : Int32) (h : (Nat → Nat → Int32)), k2 v1 h = some R → am_Rn 83 Xs am_P d 127 (2, [(0, .ref 0), (1, .int v1)], []) (am_sh, h, hm, g) (some (.int R.1), (am_sh, R.2, hm, g))) : ∀ (n : Nat) (v1 : Int32) (v2 : Int32) (h : (Nat → Nat → Int32)), zH_least_L15 k2 n v1 v2 h = some R → am_Rn 83 Xs am_P d 127 (15, [(0, .ref 0), (1, .int v1), (2, .int v2)], []) (am_sh, h, hm, g) (some (.int R.1), (am_sh, R.2, hm, g))
  | 0, _, _, _, hp => by cases hp
  | n + 1, v1, v2, h, hp => by
    obtain ⟨d, rfl⟩ : ∃ k, d = k + 1 := ⟨d - 1, by omega⟩
    unfold zH_least_L15 at hp
    refine am_Rn.run am_h127 6 (F' := (25, [(0, .ref 0), (1, .int v1), (2, .int v2)], [.int ((1 : Int32) <<< ((h 1 1) &&& 31)), .int v2])) (S' := (am_sh, h, hm, g)) rfl ?_
    refine am_Rn.ite am_h127 (c := v2 < ((1 : Int32) <<< ((h 1 1) &&& 31))) (t := 28) (f := 53) (lv := [(0, .ref 0), (1, .int v1), (2, .int v2)]) (st := []) (S' := (am_sh, h, hm, g)) rfl hp (fun hc2 hp => ?_) (fun hc2 hp => ?_)
    · refine am_Rn.run am_h127 1 (F' := (29, [(0, .ref 0), (1, .int v1), (2, .int v2)], [.int v2])) (S' := (am_sh, h, hm, g)) rfl ?_
      obtain ⟨r3, h_r3, hp⟩ := am_b_e hp
      refine am_Rn.call am_h127 (mj := 0) (As := [.int v2]) (F' := (32, [(0, .ref 0), (1, .int v1), (2, .int v2)], [])) (M' := am_m0) (r := some (.int r3)) (S1 := (am_sh, h, hm, g)) rfl am_h0 rfl (by subst h_r3; exact (ezD_bitCount (by omega) v2)) ?_
      refine am_Rn.run am_h127 1 (F' := (33, [(0, .ref 0), (1, .int v1), (2, .int v2)], [.int v1, .int r3])) (S' := (am_sh, h, hm, g)) rfl ?_
      refine am_Rn.ite am_h127 (c := r3 = v1) (t := 36) (f := 47) (lv := [(0, .ref 0), (1, .int v1), (2, .int v2)]) (st := []) (S' := (am_sh, h, hm, g)) rfl hp (fun hc4 hp => ?_) (fun hc4 hp => ?_)
      · refine am_Rn.run am_h127 2 (F' := (38, [(0, .ref 0), (1, .int v1), (2, .int v2)], [.int v2, .ref 0])) (S' := (am_sh, h, hm, g)) rfl ?_
        obtain ⟨r5, h_r5, hp⟩ := am_bind hp
        refine am_Rn.call am_h127 (mj := 124) (As := [.ref 0, .int v2]) (F' := (41, [(0, .ref 0), (1, .int v1), (2, .int v2)], [])) (M' := am_m124) (r := some (.int r5.1)) (S1 := (am_sh, r5.2, hm, g)) rfl am_h124 rfl (ezH_fewest (by omega) v2 h _ h_r5) ?_
        refine am_Rn.run am_h127 1 (F' := (42, [(0, .ref 0), (1, .int v1), (2, .int v2)], [.int (-1), .int r5.1])) (S' := (am_sh, r5.2, hm, g)) rfl ?_
        refine am_Rn.ite am_h127 (c := r5.1 = (-1)) (t := 47) (f := 45) (lv := [(0, .ref 0), (1, .int v1), (2, .int v2)]) (st := []) (S' := (am_sh, r5.2, hm, g)) rfl hp (fun hc6 hp => ?_) (fun hc6 hp => ?_)
        · refine am_Rn.run am_h127 2 (F' := (15, [(2, .int (v2 + 1)), (0, .ref 0), (1, .int v1)], [])) (S' := (am_sh, r5.2, hm, g)) rfl ?_
          refine am_Rn.sub [1, 2, 0] rfl rfl ?_
          exact ezH_least_L15 hd R k2 hk2 n v1 (v2 + 1) r5.2 hp
        · refine am_Rn.run am_h127 1 (F' := (46, [(0, .ref 0), (1, .int v1), (2, .int v2)], [.int v2])) (S' := (am_sh, r5.2, hm, g)) rfl ?_
          cases hp
          exact am_Rn.ret am_h127 rfl
      · refine am_Rn.run am_h127 2 (F' := (15, [(2, .int (v2 + 1)), (0, .ref 0), (1, .int v1)], [])) (S' := (am_sh, h, hm, g)) rfl ?_
        refine am_Rn.sub [1, 2, 0] rfl rfl ?_
        exact ezH_least_L15 hd R k2 hk2 n v1 (v2 + 1) h hp
    · refine am_Rn.run am_h127 2 (F' := (2, [(1, .int (v1 + 1)), (0, .ref 0), (2, .int v2)], [])) (S' := (am_sh, h, hm, g)) rfl ?_
      refine am_Rn.sub [1, 0] rfl rfl ?_
      exact hk2 (v1 + 1) h hp
def zH_least_L2 : Nat → Int32 → (Nat → Nat → Int32) → Option (Int32 × (Nat → Nat → Int32))
  | 0, _, _ => none
  | n + 1, v1, h => if (h 1 1) < v1 then (some (((-1), h))) else (zH_least_L15 (fun v1 h => zH_least_L2 n v1 h) am_N v1 0 h)
set_option maxRecDepth 20000 in
theorem ezH_least_L2 {d : Nat} (hd : 13 ≤ d) (R : Int32 × (Nat → Nat → Int32)) : ∀ (n : Nat) (v1 : Int32) (h : (Nat → Nat → Int32)), zH_least_L2 n v1 h = some R → am_Rn 83 Xs am_P d 127 (2, [(0, .ref 0), (1, .int v1)], []) (am_sh, h, hm, g) (some (.int R.1), (am_sh, R.2, hm, g))
  | 0, _, _, hp => by cases hp
  | n + 1, v1, h, hp => by
    obtain ⟨d, rfl⟩ : ∃ k, d = k + 1 := ⟨d - 1, by omega⟩
    unfold zH_least_L2 at hp
    refine am_Rn.run am_h127 4 (F' := (10, [(0, .ref 0), (1, .int v1)], [.int (h 1 1), .int v1])) (S' := (am_sh, h, hm, g)) rfl ?_
    refine am_Rn.ite am_h127 (c := (h 1 1) < v1) (t := 59) (f := 13) (lv := [(0, .ref 0), (1, .int v1)]) (st := []) (S' := (am_sh, h, hm, g)) rfl hp (fun hc1 hp => ?_) (fun hc1 hp => ?_)
    · refine am_Rn.run am_h127 1 (F' := (60, [(0, .ref 0), (1, .int v1)], [.int (-1)])) (S' := (am_sh, h, hm, g)) rfl ?_
      cases hp
      exact am_Rn.ret am_h127 rfl
    · refine am_Rn.run am_h127 2 (F' := (15, [(2, .int 0), (0, .ref 0), (1, .int v1)], [])) (S' := (am_sh, h, hm, g)) rfl ?_
      refine am_Rn.sub [1, 2, 0] rfl rfl ?_
      exact ezH_least_L15 hd R (fun v1 h => zH_least_L2 n v1 h) (fun v1 h hp => ezH_least_L2 hd R n v1 h hp) am_N v1 0 h hp
def zH_least (h : (Nat → Nat → Int32)) : Option (Int32 × (Nat → Nat → Int32)) := zH_least_L2 am_N 0 h
set_option maxRecDepth 20000 in
theorem ezH_least {d : Nat} (hd : 13 ≤ d) (h : (Nat → Nat → Int32)) (R : Int32 × (Nat → Nat → Int32)) (hp : zH_least h = some R) : am_Ev 83 Xs am_P d 127 [.ref 0] (am_sh, h, hm, g) (some (.int R.1), (am_sh, R.2, hm, g)) := by
  obtain ⟨d, rfl⟩ : ∃ k, d = k + 1 := ⟨d - 1, by omega⟩
  unfold zH_least at hp
  show am_Rn 83 Xs am_P _ 127 (0, [(0, .ref 0)], []) _ _
  refine am_Rn.run am_h127 2 (F' := (2, [(1, .int 0), (0, .ref 0)], [])) (S' := (am_sh, h, hm, g)) rfl ?_
  refine am_Rn.sub [1, 0] rfl rfl ?_
  exact ezH_least_L2 hd R am_N 0 h hp
/-- SixHands$Stage.actingFigures()I [1] -/
def zG_actingFigures_L14 (k4 : Int32 → Int32 → (Nat → Nat → Int32) → Option (Int32)) : Nat → Int32 → Int32 → Int32 → (Nat → Nat → Int32) → Option (Int32)
  | 0, _, _, _, _ => none
  | n + 1, v1, v2, v3, h => if v3 < (h 1 4) then ((zG_isOn v2 v3 h).bind fun r3 => if r3 = 0 then (zG_actingFigures_L14 k4 n v1 v2 (v3 + 1) h) else (am_b (v1 ||| ((1 : Int32) <<< (v3 &&& 31))) fun x5 => zG_actingFigures_L14 k4 n x5 v2 (v3 + 1) h)) else (k4 v1 (v2 + 1) h)
set_option maxRecDepth 20000 in
theorem ezG_actingFigures_L14 {d : Nat} (hd : 1 ≤ d) (R : Int32) (k4 : Int32 → Int32 → (Nat → Nat → Int32) → Option (Int32)) (hk4 : ∀ (v1 : Int32) (v2 : Int32) (h : (Nat → Nat → Int32)), k4 v1 v2 h = some R → am_Rn 83 Xs am_P d 89 (4, [(0, .ref 1), (1, .int v1), (2, .int v2)], []) (am_sh, h, hm, g) (some (.int R), (am_sh, h, hm, g))) : ∀ (n : Nat) (v1 : Int32) (v2 : Int32) (v3 : Int32) (h : (Nat → Nat → Int32)), zG_actingFigures_L14 k4 n v1 v2 v3 h = some R → am_Rn 83 Xs am_P d 89 (14, [(0, .ref 1), (1, .int v1), (2, .int v2), (3, .int v3)], []) (am_sh, h, hm, g) (some (.int R), (am_sh, h, hm, g))
  | 0, _, _, _, _, hp => by cases hp
  | n + 1, v1, v2, v3, h, hp => by
    obtain ⟨d, rfl⟩ : ∃ k, d = k + 1 := ⟨d - 1, by omega⟩
    unfold zG_actingFigures_L14 at hp
    refine am_Rn.run am_h89 3 (F' := (19, [(0, .ref 1), (1, .int v1), (2, .int v2), (3, .int v3)], [.int (h 1 4), .int v3])) (S' := (am_sh, h, hm, g)) rfl ?_
    refine am_Rn.ite am_h89 (c := v3 < (h 1 4)) (t := 22) (f := 43) (lv := [(0, .ref 1), (1, .int v1), (2, .int v2), (3, .int v3)]) (st := []) (S' := (am_sh, h, hm, g)) rfl hp (fun hc2 hp => ?_) (fun hc2 hp => ?_)
    · refine am_Rn.run am_h89 3 (F' := (25, [(0, .ref 1), (1, .int v1), (2, .int v2), (3, .int v3)], [.int v3, .int v2, .ref 1])) (S' := (am_sh, h, hm, g)) rfl ?_
      obtain ⟨r3, h_r3, hp⟩ := am_bind hp
      refine am_Rn.call am_h89 (mj := 85) (As := [.ref 1, .int v2, .int v3]) (F' := (28, [(0, .ref 1), (1, .int v1), (2, .int v2), (3, .int v3)], [])) (M' := am_m85) (r := some (.int r3)) (S1 := (am_sh, h, hm, g)) rfl am_h85 rfl (ezG_isOn (by omega) v2 v3 h _ h_r3) ?_
      refine am_Rn.ite am_h89 (c := r3 = 0) (t := 37) (f := 31) (lv := [(0, .ref 1), (1, .int v1), (2, .int v2), (3, .int v3)]) (st := []) (S' := (am_sh, h, hm, g)) rfl hp (fun hc4 hp => ?_) (fun hc4 hp => ?_)
      · refine am_Rn.run am_h89 2 (F' := (14, [(3, .int (v3 + 1)), (0, .ref 1), (1, .int v1), (2, .int v2)], [])) (S' := (am_sh, h, hm, g)) rfl ?_
        refine am_Rn.sub [1, 2, 3, 0] rfl rfl ?_
        exact ezG_actingFigures_L14 hd R k4 hk4 n v1 v2 (v3 + 1) h hp
      · obtain ⟨x5, h_x5, hp⟩ := am_b_e hp
        refine am_Rn.run am_h89 8 (F' := (14, [(3, .int (v3 + 1)), (1, .int x5), (0, .ref 1), (2, .int v2)], [])) (S' := (am_sh, h, hm, g)) (by subst h_x5; rfl) ?_
        refine am_Rn.sub [2, 1, 3, 0] rfl rfl ?_
        exact ezG_actingFigures_L14 hd R k4 hk4 n x5 v2 (v3 + 1) h hp
    · refine am_Rn.run am_h89 2 (F' := (4, [(2, .int (v2 + 1)), (0, .ref 1), (1, .int v1), (3, .int v3)], [])) (S' := (am_sh, h, hm, g)) rfl ?_
      refine am_Rn.sub [1, 2, 0] rfl rfl ?_
      exact hk4 v1 (v2 + 1) h hp
def zG_actingFigures_L4 : Nat → Int32 → Int32 → (Nat → Nat → Int32) → Option (Int32)
  | 0, _, _, _ => none
  | n + 1, v1, v2, h => if v2 < (h 1 13) then (zG_actingFigures_L14 (fun v1 v2 h => zG_actingFigures_L4 n v1 v2 h) am_N v1 v2 0 h) else (some v1)
set_option maxRecDepth 20000 in
theorem ezG_actingFigures_L4 {d : Nat} (hd : 1 ≤ d) (R : Int32) : ∀ (n : Nat) (v1 : Int32) (v2 : Int32) (h : (Nat → Nat → Int32)), zG_actingFigures_L4 n v1 v2 h = some R → am_Rn 83 Xs am_P d 89 (4, [(0, .ref 1), (1, .int v1), (2, .int v2)], []) (am_sh, h, hm, g) (some (.int R), (am_sh, h, hm, g))
  | 0, _, _, _, hp => by cases hp
  | n + 1, v1, v2, h, hp => by
    obtain ⟨d, rfl⟩ : ∃ k, d = k + 1 := ⟨d - 1, by omega⟩
    unfold zG_actingFigures_L4 at hp
    refine am_Rn.run am_h89 3 (F' := (9, [(0, .ref 1), (1, .int v1), (2, .int v2)], [.int (h 1 13), .int v2])) (S' := (am_sh, h, hm, g)) rfl ?_
    refine am_Rn.ite am_h89 (c := v2 < (h 1 13)) (t := 12) (f := 49) (lv := [(0, .ref 1), (1, .int v1), (2, .int v2)]) (st := []) (S' := (am_sh, h, hm, g)) rfl hp (fun hc1 hp => ?_) (fun hc1 hp => ?_)
    · refine am_Rn.run am_h89 2 (F' := (14, [(3, .int 0), (0, .ref 1), (1, .int v1), (2, .int v2)], [])) (S' := (am_sh, h, hm, g)) rfl ?_
      refine am_Rn.sub [1, 2, 3, 0] rfl rfl ?_
      exact ezG_actingFigures_L14 hd R (fun v1 v2 h => zG_actingFigures_L4 n v1 v2 h) (fun v1 v2 h hp => ezG_actingFigures_L4 hd R n v1 v2 h hp) am_N v1 v2 0 h hp
    · refine am_Rn.run am_h89 1 (F' := (50, [(0, .ref 1), (1, .int v1), (2, .int v2)], [.int v1])) (S' := (am_sh, h, hm, g)) rfl ?_
      cases hp
      exact am_Rn.ret am_h89 rfl
def zG_actingFigures (h : (Nat → Nat → Int32)) : Option (Int32) := zG_actingFigures_L4 am_N 0 0 h
set_option maxRecDepth 20000 in
theorem ezG_actingFigures {d : Nat} (hd : 1 ≤ d) (h : (Nat → Nat → Int32)) (R : Int32) (hp : zG_actingFigures h = some R) : am_Ev 83 Xs am_P d 89 [.ref 1] (am_sh, h, hm, g) (some (.int R), (am_sh, h, hm, g)) := by
  obtain ⟨d, rfl⟩ : ∃ k, d = k + 1 := ⟨d - 1, by omega⟩
  unfold zG_actingFigures at hp
  show am_Rn 83 Xs am_P _ 89 (0, [(0, .ref 1)], []) _ _
  refine am_Rn.run am_h89 4 (F' := (4, [(2, .int 0), (1, .int 0), (0, .ref 1)], [])) (S' := (am_sh, h, hm, g)) rfl ?_
  refine am_Rn.sub [2, 1, 0] rfl rfl ?_
  exact ezG_actingFigures_L4 hd R am_N 0 0 h hp
/-- SixHands$Stage.weightOf(I)I [1] -/
def zG_weightOf_L4 : Nat → Int32 → Int32 → Int32 → (Nat → Nat → Int32) → Option (Int32)
  | 0, _, _, _, _ => none
  | n + 1, v1, v2, v3, h => if v3 < (h 1 4) then (if ((v1 >>> (v3 &&& 31)) &&& 1) = 0 then (zG_weightOf_L4 n v1 v2 (v3 + 1) h) else (am_ix 6 v3 (am_ix 6 v3 (am_b (v2 + ((h 5 (v3.toNatClampNeg)) * (h 6 (v3.toNatClampNeg)))) fun x5 => zG_weightOf_L4 n v1 x5 (v3 + 1) h)))) else (some v2)
set_option maxRecDepth 20000 in
theorem ezG_weightOf_L4 {d : Nat} (hd : 0 ≤ d) (R : Int32) : ∀ (n : Nat) (v1 : Int32) (v2 : Int32) (v3 : Int32) (h : (Nat → Nat → Int32)), zG_weightOf_L4 n v1 v2 v3 h = some R → am_Rn 83 Xs am_P d 90 (4, [(0, .ref 1), (1, .int v1), (2, .int v2), (3, .int v3)], []) (am_sh, h, hm, g) (some (.int R), (am_sh, h, hm, g))
  | 0, _, _, _, _, hp => by cases hp
  | n + 1, v1, v2, v3, h, hp => by
    unfold zG_weightOf_L4 at hp
    refine am_Rn.run am_h90 3 (F' := (9, [(0, .ref 1), (1, .int v1), (2, .int v2), (3, .int v3)], [.int (h 1 4), .int v3])) (S' := (am_sh, h, hm, g)) rfl ?_
    refine am_Rn.ite am_h90 (c := v3 < (h 1 4)) (t := 12) (f := 42) (lv := [(0, .ref 1), (1, .int v1), (2, .int v2), (3, .int v3)]) (st := []) (S' := (am_sh, h, hm, g)) rfl hp (fun hc1 hp => ?_) (fun hc1 hp => ?_)
    · refine am_Rn.run am_h90 5 (F' := (17, [(0, .ref 1), (1, .int v1), (2, .int v2), (3, .int v3)], [.int ((v1 >>> (v3 &&& 31)) &&& 1)])) (S' := (am_sh, h, hm, g)) rfl ?_
      refine am_Rn.ite am_h90 (c := ((v1 >>> (v3 &&& 31)) &&& 1) = 0) (t := 36) (f := 20) (lv := [(0, .ref 1), (1, .int v1), (2, .int v2), (3, .int v3)]) (st := []) (S' := (am_sh, h, hm, g)) rfl hp (fun hc2 hp => ?_) (fun hc2 hp => ?_)
      · refine am_Rn.run am_h90 2 (F' := (4, [(3, .int (v3 + 1)), (0, .ref 1), (1, .int v1), (2, .int v2)], [])) (S' := (am_sh, h, hm, g)) rfl ?_
        refine am_Rn.sub [1, 2, 3, 0] rfl rfl ?_
        exact ezG_weightOf_L4 hd R n v1 v2 (v3 + 1) h hp
      · refine am_Rn.run am_h90 4 (F' := (26, [(0, .ref 1), (1, .int v1), (2, .int v2), (3, .int v3)], [.int v3, .ref 5, .int v2])) (S' := (am_sh, h, hm, g)) rfl ?_
        obtain ⟨hn3, hp⟩ := am_ix_e hp
        refine am_Rn.stepG am_h90 (c := v3 < 0 ∨ 6 ≤ v3.toNatClampNeg) (F' := (27, [(0, .ref 1), (1, .int v1), (2, .int v2), (3, .int v3)], [.int (h 5 (v3.toNatClampNeg)), .int v2])) (S' := (am_sh, h, hm, g)) rfl hn3 ?_
        refine am_Rn.run am_h90 3 (F' := (32, [(0, .ref 1), (1, .int v1), (2, .int v2), (3, .int v3)], [.int v3, .ref 6, .int (h 5 (v3.toNatClampNeg)), .int v2])) (S' := (am_sh, h, hm, g)) rfl ?_
        obtain ⟨hn4, hp⟩ := am_ix_e hp
        refine am_Rn.stepG am_h90 (c := v3 < 0 ∨ 6 ≤ v3.toNatClampNeg) (F' := (33, [(0, .ref 1), (1, .int v1), (2, .int v2), (3, .int v3)], [.int (h 6 (v3.toNatClampNeg)), .int (h 5 (v3.toNatClampNeg)), .int v2])) (S' := (am_sh, h, hm, g)) rfl hn4 ?_
        obtain ⟨x5, h_x5, hp⟩ := am_b_e hp
        refine am_Rn.run am_h90 5 (F' := (4, [(3, .int (v3 + 1)), (2, .int x5), (0, .ref 1), (1, .int v1)], [])) (S' := (am_sh, h, hm, g)) (by subst h_x5; rfl) ?_
        refine am_Rn.sub [2, 3, 1, 0] rfl rfl ?_
        exact ezG_weightOf_L4 hd R n v1 x5 (v3 + 1) h hp
    · refine am_Rn.run am_h90 1 (F' := (43, [(0, .ref 1), (1, .int v1), (2, .int v2), (3, .int v3)], [.int v2])) (S' := (am_sh, h, hm, g)) rfl ?_
      cases hp
      exact am_Rn.ret am_h90 rfl
def zG_weightOf (v1 : Int32) (h : (Nat → Nat → Int32)) : Option (Int32) := zG_weightOf_L4 am_N v1 0 0 h
set_option maxRecDepth 20000 in
theorem ezG_weightOf {d : Nat} (hd : 0 ≤ d) (v1 : Int32) (h : (Nat → Nat → Int32)) (R : Int32) (hp : zG_weightOf v1 h = some R) : am_Ev 83 Xs am_P d 90 [.ref 1, .int v1] (am_sh, h, hm, g) (some (.int R), (am_sh, h, hm, g)) := by
  unfold zG_weightOf at hp
  show am_Rn 83 Xs am_P _ 90 (0, [(0, .ref 1), (1, .int v1)], []) _ _
  refine am_Rn.run am_h90 4 (F' := (4, [(3, .int 0), (2, .int 0), (0, .ref 1), (1, .int v1)], [])) (S' := (am_sh, h, hm, g)) rfl ?_
  refine am_Rn.sub [2, 3, 1, 0] rfl rfl ?_
  exact ezG_weightOf_L4 hd R am_N v1 0 0 h hp
/-- SixHands.canBeActed(II)Z [0] -/
def zH_canBeActed (v1 : Int32) (v2 : Int32) (h : (Nat → Nat → Int32)) : Option (Int32 × (Nat → Nat → Int32)) := (zS_load v1 v2 h).bind fun r1 => am_b (va_up r1 65 (upd (r1 65) 0 0)) fun h2 => (zS_run 0 h2).bind fun r3 => if r3.1 < 1000000 then (some ((1, r3.2))) else (some ((0, r3.2)))
set_option maxRecDepth 20000 in
theorem ezH_canBeActed {d : Nat} (hd : 12 ≤ d) (v1 : Int32) (v2 : Int32) (h : (Nat → Nat → Int32)) (R : Int32 × (Nat → Nat → Int32)) (hp : zH_canBeActed v1 v2 h = some R) : am_Ev 83 Xs am_P d 143 [.ref 0, .int v1, .int v2] (am_sh, h, hm, g) (some (.int R.1), (am_sh, R.2, hm, g)) := by
  obtain ⟨d, rfl⟩ : ∃ k, d = k + 1 := ⟨d - 1, by omega⟩
  unfold zH_canBeActed at hp
  show am_Rn 83 Xs am_P _ 143 (0, [(0, .ref 0), (1, .int v1), (2, .int v2)], []) _ _
  refine am_Rn.run am_h143 8 (F' := (14, [(0, .ref 0), (1, .int v1), (2, .int v2)], [.int v2, .int v1, .ref 59, .ref 1, .ref 65])) (S' := (am_sh, h, hm, g)) rfl ?_
  obtain ⟨r1, h_r1, hp⟩ := am_bind hp
  refine am_Rn.call am_h143 (mj := 51) (As := [.ref 65, .ref 1, .ref 59, .int v1, .int v2]) (F' := (17, [(0, .ref 0), (1, .int v1), (2, .int v2)], [])) (M' := am_m51) (r := none) (S1 := (am_sh, r1, hm, g)) rfl am_h51 rfl (ezS_load (by omega) v1 v2 h _ h_r1) ?_
  obtain ⟨h2, h_h2, hp⟩ := am_b_e hp
  refine am_Rn.run am_h143 7 (F' := (30, [(0, .ref 0), (1, .int v1), (2, .int v2)], [.int 0, .ref 65])) (S' := (am_sh, h2, hm, g)) (by subst h_h2; rfl) ?_
  obtain ⟨r3, h_r3, hp⟩ := am_bind hp
  refine am_Rn.call am_h143 (mj := 52) (As := [.ref 65, .int 0]) (F' := (33, [(0, .ref 0), (1, .int v1), (2, .int v2)], [])) (M' := am_m52) (r := some (.int r3.1)) (S1 := (am_sh, r3.2, hm, g)) rfl am_h52 rfl (ezS_run (by omega) 0 h2 _ h_r3) ?_
  refine am_Rn.run am_h143 1 (F' := (35, [(0, .ref 0), (1, .int v1), (2, .int v2)], [.int 1000000, .int r3.1])) (S' := (am_sh, r3.2, hm, g)) rfl ?_
  refine am_Rn.ite am_h143 (c := r3.1 < 1000000) (t := 38) (f := 42) (lv := [(0, .ref 0), (1, .int v1), (2, .int v2)]) (st := []) (S' := (am_sh, r3.2, hm, g)) rfl hp (fun hc4 hp => ?_) (fun hc4 hp => ?_)
  · refine am_Rn.run am_h143 2 (F' := (43, [(0, .ref 0), (1, .int v1), (2, .int v2)], [.int 1])) (S' := (am_sh, r3.2, hm, g)) rfl ?_
    cases hp
    exact am_Rn.ret am_h143 rfl
  · refine am_Rn.run am_h143 1 (F' := (43, [(0, .ref 0), (1, .int v1), (2, .int v2)], [.int 0])) (S' := (am_sh, r3.2, hm, g)) rfl ?_
    cases hp
    exact am_Rn.ret am_h143 rfl
/-- SixHands.findStrike(I)V [0] -/
def zH_findStrike_J129 (k68 : Int32 → Int32 → Int32 → (Nat → Nat → Int32) → Option ((Nat → Nat → Int32))) (v1 : Int32) (v2 : Int32) (v3 : Int32) (v4 : Int32) (h : (Nat → Nat → Int32)) : Option ((Nat → Nat → Int32)) := (zH_canBeActed v1 v3 h).bind fun r17 => if r17.1 = 0 then (k68 v1 v2 (v3 + 1) r17.2) else (am_ix 8 v1 (am_b (va_up r17.2 81 (upd (r17.2 81) (v1.toNatClampNeg) v3)) fun h20 => am_ix 8 v1 (am_b (va_up h20 82 (upd (h20 82) (v1.toNatClampNeg) v4)) fun h22 => k68 v1 v2 (v3 + 1) h22)))
set_option maxRecDepth 20000 in
theorem ezH_findStrike_J129 {d : Nat} (hd : 13 ≤ d) (R : (Nat → Nat → Int32)) (k68 : Int32 → Int32 → Int32 → (Nat → Nat → Int32) → Option ((Nat → Nat → Int32))) (hk68 : ∀ (v1 : Int32) (v2 : Int32) (v3 : Int32) (h : (Nat → Nat → Int32)), k68 v1 v2 v3 h = some R → am_Rn 83 Xs am_P d 142 (68, [(0, .ref 0), (1, .int v1), (2, .int v2), (3, .int v3)], []) (am_sh, h, hm, g) (none, (am_sh, R, hm, g))) (v1 : Int32) (v2 : Int32) (v3 : Int32) (v4 : Int32) (h : (Nat → Nat → Int32)) (hp : zH_findStrike_J129 k68 v1 v2 v3 v4 h = some R) : am_Rn 83 Xs am_P d 142 (129, [(0, .ref 0), (1, .int v1), (2, .int v2), (3, .int v3), (4, .int v4)], []) (am_sh, h, hm, g) (none, (am_sh, R, hm, g)) := by
  obtain ⟨d, rfl⟩ : ∃ k, d = k + 1 := ⟨d - 1, by omega⟩
  unfold zH_findStrike_J129 at hp
  refine am_Rn.run am_h142 3 (F' := (132, [(0, .ref 0), (1, .int v1), (2, .int v2), (3, .int v3), (4, .int v4)], [.int v3, .int v1, .ref 0])) (S' := (am_sh, h, hm, g)) rfl ?_
  obtain ⟨r17, h_r17, hp⟩ := am_bind hp
  refine am_Rn.call am_h142 (mj := 143) (As := [.ref 0, .int v1, .int v3]) (F' := (135, [(0, .ref 0), (1, .int v1), (2, .int v2), (3, .int v3), (4, .int v4)], [])) (M' := am_m143) (r := some (.int r17.1)) (S1 := (am_sh, r17.2, hm, g)) rfl am_h143 rfl (ezH_canBeActed (by omega) v1 v3 h _ h_r17) ?_
  refine am_Rn.ite am_h142 (c := r17.1 = 0) (t := 159) (f := 138) (lv := [(0, .ref 0), (1, .int v1), (2, .int v2), (3, .int v3), (4, .int v4)]) (st := []) (S' := (am_sh, r17.2, hm, g)) rfl hp (fun hc18 hp => ?_) (fun hc18 hp => ?_)
  · refine am_Rn.run am_h142 2 (F' := (68, [(3, .int (v3 + 1)), (0, .ref 0), (1, .int v1), (2, .int v2), (4, .int v4)], [])) (S' := (am_sh, r17.2, hm, g)) rfl ?_
    refine am_Rn.sub [1, 2, 3, 0] rfl rfl ?_
    exact hk68 v1 v2 (v3 + 1) r17.2 hp
  · refine am_Rn.run am_h142 5 (F' := (147, [(0, .ref 0), (1, .int v1), (2, .int v2), (3, .int v3), (4, .int v4)], [.int v3, .int v1, .ref 81])) (S' := (am_sh, r17.2, hm, g)) rfl ?_
    obtain ⟨hn19, hp⟩ := am_ix_e hp
    obtain ⟨h20, h_h20, hp⟩ := am_b_e hp
    refine am_Rn.stepG am_h142 (c := v1 < 0 ∨ 8 ≤ v1.toNatClampNeg) (F' := (148, [(0, .ref 0), (1, .int v1), (2, .int v2), (3, .int v3), (4, .int v4)], [])) (S' := (am_sh, h20, hm, g)) (by subst h_h20; rfl) hn19 ?_
    refine am_Rn.run am_h142 5 (F' := (158, [(0, .ref 0), (1, .int v1), (2, .int v2), (3, .int v3), (4, .int v4)], [.int v4, .int v1, .ref 82])) (S' := (am_sh, h20, hm, g)) rfl ?_
    obtain ⟨hn21, hp⟩ := am_ix_e hp
    obtain ⟨h22, h_h22, hp⟩ := am_b_e hp
    refine am_Rn.stepG am_h142 (c := v1 < 0 ∨ 8 ≤ v1.toNatClampNeg) (F' := (159, [(0, .ref 0), (1, .int v1), (2, .int v2), (3, .int v3), (4, .int v4)], [])) (S' := (am_sh, h22, hm, g)) (by subst h_h22; rfl) hn21 ?_
    refine am_Rn.run am_h142 2 (F' := (68, [(3, .int (v3 + 1)), (0, .ref 0), (1, .int v1), (2, .int v2), (4, .int v4)], [])) (S' := (am_sh, h22, hm, g)) rfl ?_
    refine am_Rn.sub [1, 2, 3, 0] rfl rfl ?_
    exact hk68 v1 v2 (v3 + 1) h22 hp
def zH_findStrike_L68 : Nat → Int32 → Int32 → Int32 → (Nat → Nat → Int32) → Option ((Nat → Nat → Int32))
  | 0, _, _, _, _ => none
  | n + 1, v1, v2, v3, h => if v3 < ((1 : Int32) <<< ((h 1 4) &&& 31)) then (if (v3 &&& (v2 ^^^ (-1))) = 0 then ((zG_weightOf v3 h).bind fun r14 => am_ix 8 v1 (if (h 82 (v1.toNatClampNeg)) = (-1) then (zH_findStrike_J129 (fun v1 v2 v3 h => zH_findStrike_L68 n v1 v2 v3 h) v1 v2 v3 r14 h) else (am_ix 8 v1 (if r14 < (h 82 (v1.toNatClampNeg)) then (zH_findStrike_J129 (fun v1 v2 v3 h => zH_findStrike_L68 n v1 v2 v3 h) v1 v2 v3 r14 h) else (zH_findStrike_L68 n v1 v2 (v3 + 1) h))))) else (zH_findStrike_L68 n v1 v2 (v3 + 1) h)) else (some h)
set_option maxRecDepth 20000 in
theorem ezH_findStrike_L68 {d : Nat} (hd : 13 ≤ d) (R : (Nat → Nat → Int32)) : ∀ (n : Nat) (v1 : Int32) (v2 : Int32) (v3 : Int32) (h : (Nat → Nat → Int32)), zH_findStrike_L68 n v1 v2 v3 h = some R → am_Rn 83 Xs am_P d 142 (68, [(0, .ref 0), (1, .int v1), (2, .int v2), (3, .int v3)], []) (am_sh, h, hm, g) (none, (am_sh, R, hm, g))
  | 0, _, _, _, _, hp => by cases hp
  | n + 1, v1, v2, v3, h, hp => by
    obtain ⟨d, rfl⟩ : ∃ k, d = k + 1 := ⟨d - 1, by omega⟩
    unfold zH_findStrike_L68 at hp
    refine am_Rn.run am_h142 6 (F' := (78, [(0, .ref 0), (1, .int v1), (2, .int v2), (3, .int v3)], [.int ((1 : Int32) <<< ((h 1 4) &&& 31)), .int v3])) (S' := (am_sh, h, hm, g)) rfl ?_
    refine am_Rn.ite am_h142 (c := v3 < ((1 : Int32) <<< ((h 1 4) &&& 31))) (t := 81) (f := 165) (lv := [(0, .ref 0), (1, .int v1), (2, .int v2), (3, .int v3)]) (st := []) (S' := (am_sh, h, hm, g)) rfl hp (fun hc12 hp => ?_) (fun hc12 hp => ?_)
    · refine am_Rn.run am_h142 5 (F' := (86, [(0, .ref 0), (1, .int v1), (2, .int v2), (3, .int v3)], [.int (v3 &&& (v2 ^^^ (-1)))])) (S' := (am_sh, h, hm, g)) rfl ?_
      refine am_Rn.ite am_h142 (c := (v3 &&& (v2 ^^^ (-1))) = 0) (t := 92) (f := 89) (lv := [(0, .ref 0), (1, .int v1), (2, .int v2), (3, .int v3)]) (st := []) (S' := (am_sh, h, hm, g)) rfl hp (fun hc13 hp => ?_) (fun hc13 hp => ?_)
      · refine am_Rn.run am_h142 3 (F' := (97, [(0, .ref 0), (1, .int v1), (2, .int v2), (3, .int v3)], [.int v3, .ref 1])) (S' := (am_sh, h, hm, g)) rfl ?_
        obtain ⟨r14, h_r14, hp⟩ := am_bind hp
        refine am_Rn.call am_h142 (mj := 90) (As := [.ref 1, .int v3]) (F' := (100, [(0, .ref 0), (1, .int v1), (2, .int v2), (3, .int v3)], [])) (M' := am_m90) (r := some (.int r14)) (S1 := (am_sh, h, hm, g)) rfl am_h90 rfl (ezG_weightOf (by omega) v3 h _ h_r14) ?_
        refine am_Rn.run am_h142 5 (F' := (110, [(4, .int r14), (0, .ref 0), (1, .int v1), (2, .int v2), (3, .int v3)], [.int v1, .ref 82])) (S' := (am_sh, h, hm, g)) rfl ?_
        obtain ⟨hn15, hp⟩ := am_ix_e hp
        refine am_Rn.stepG am_h142 (c := v1 < 0 ∨ 8 ≤ v1.toNatClampNeg) (F' := (111, [(4, .int r14), (0, .ref 0), (1, .int v1), (2, .int v2), (3, .int v3)], [.int (h 82 (v1.toNatClampNeg))])) (S' := (am_sh, h, hm, g)) rfl hn15 ?_
        refine am_Rn.run am_h142 1 (F' := (112, [(4, .int r14), (0, .ref 0), (1, .int v1), (2, .int v2), (3, .int v3)], [.int (-1), .int (h 82 (v1.toNatClampNeg))])) (S' := (am_sh, h, hm, g)) rfl ?_
        refine am_Rn.ite am_h142 (c := (h 82 (v1.toNatClampNeg)) = (-1)) (t := 129) (f := 115) (lv := [(4, .int r14), (0, .ref 0), (1, .int v1), (2, .int v2), (3, .int v3)]) (st := []) (S' := (am_sh, h, hm, g)) rfl hp (fun hc16 hp => ?_) (fun hc16 hp => ?_)
        · refine am_Rn.sub [1, 2, 3, 4, 0] rfl rfl ?_
          exact ezH_findStrike_J129 hd R (fun v1 v2 v3 h => zH_findStrike_L68 n v1 v2 v3 h) (fun v1 v2 v3 h hp => ezH_findStrike_L68 hd R n v1 v2 v3 h hp) v1 v2 v3 r14 h hp
        · refine am_Rn.run am_h142 5 (F' := (125, [(4, .int r14), (0, .ref 0), (1, .int v1), (2, .int v2), (3, .int v3)], [.int v1, .ref 82, .int r14])) (S' := (am_sh, h, hm, g)) rfl ?_
          obtain ⟨hn23, hp⟩ := am_ix_e hp
          refine am_Rn.stepG am_h142 (c := v1 < 0 ∨ 8 ≤ v1.toNatClampNeg) (F' := (126, [(4, .int r14), (0, .ref 0), (1, .int v1), (2, .int v2), (3, .int v3)], [.int (h 82 (v1.toNatClampNeg)), .int r14])) (S' := (am_sh, h, hm, g)) rfl hn23 ?_
          refine am_Rn.ite am_h142 (c := r14 < (h 82 (v1.toNatClampNeg))) (t := 129) (f := 159) (lv := [(4, .int r14), (0, .ref 0), (1, .int v1), (2, .int v2), (3, .int v3)]) (st := []) (S' := (am_sh, h, hm, g)) rfl hp (fun hc24 hp => ?_) (fun hc24 hp => ?_)
          · refine am_Rn.sub [1, 2, 3, 4, 0] rfl rfl ?_
            exact ezH_findStrike_J129 hd R (fun v1 v2 v3 h => zH_findStrike_L68 n v1 v2 v3 h) (fun v1 v2 v3 h hp => ezH_findStrike_L68 hd R n v1 v2 v3 h hp) v1 v2 v3 r14 h hp
          · refine am_Rn.run am_h142 2 (F' := (68, [(3, .int (v3 + 1)), (4, .int r14), (0, .ref 0), (1, .int v1), (2, .int v2)], [])) (S' := (am_sh, h, hm, g)) rfl ?_
            refine am_Rn.sub [2, 3, 4, 0] rfl rfl ?_
            exact ezH_findStrike_L68 hd R n v1 v2 (v3 + 1) h hp
      · refine am_Rn.run am_h142 3 (F' := (68, [(3, .int (v3 + 1)), (0, .ref 0), (1, .int v1), (2, .int v2)], [])) (S' := (am_sh, h, hm, g)) rfl ?_
        refine am_Rn.sub [1, 2, 3, 0] rfl rfl ?_
        exact ezH_findStrike_L68 hd R n v1 v2 (v3 + 1) h hp
    · cases hp
      exact am_Rn.ret am_h142 rfl
def zH_findStrike (v1 : Int32) (h : (Nat → Nat → Int32)) : Option ((Nat → Nat → Int32)) := am_ix 8 v1 (if (h 80 (v1.toNatClampNeg)) = 0 then (am_ix 8 v1 (am_b (va_up h 80 (upd (h 80) (v1.toNatClampNeg) (1 : Int32))) fun h4 => am_ix 8 v1 (am_b (va_up h4 81 (upd (h4 81) (v1.toNatClampNeg) (-1))) fun h6 => am_ix 8 v1 (am_b (va_up h6 82 (upd (h6 82) (v1.toNatClampNeg) (-1))) fun h8 => (zH_ruling h8).bind fun r9 => (zL_learn r9 h8).bind fun r10 => (zG_actingFigures r10).bind fun r11 => zH_findStrike_L68 am_N v1 r11 0 r10)))) else (some h))
set_option maxRecDepth 20000 in
theorem ezH_findStrike {d : Nat} (hd : 13 ≤ d) (v1 : Int32) (h : (Nat → Nat → Int32)) (R : (Nat → Nat → Int32)) (hp : zH_findStrike v1 h = some R) : am_Ev 83 Xs am_P d 142 [.ref 0, .int v1] (am_sh, h, hm, g) (none, (am_sh, R, hm, g)) := by
  obtain ⟨d, rfl⟩ : ∃ k, d = k + 1 := ⟨d - 1, by omega⟩
  unfold zH_findStrike at hp
  show am_Rn 83 Xs am_P _ 142 (0, [(0, .ref 0), (1, .int v1)], []) _ _
  refine am_Rn.run am_h142 4 (F' := (8, [(0, .ref 0), (1, .int v1)], [.int v1, .ref 80])) (S' := (am_sh, h, hm, g)) rfl ?_
  obtain ⟨hn1, hp⟩ := am_ix_e hp
  refine am_Rn.stepG am_h142 (c := v1 < 0 ∨ 8 ≤ v1.toNatClampNeg) (F' := (9, [(0, .ref 0), (1, .int v1)], [.int (h 80 (v1.toNatClampNeg))])) (S' := (am_sh, h, hm, g)) rfl hn1 ?_
  refine am_Rn.ite am_h142 (c := (h 80 (v1.toNatClampNeg)) = 0) (t := 13) (f := 12) (lv := [(0, .ref 0), (1, .int v1)]) (st := []) (S' := (am_sh, h, hm, g)) rfl hp (fun hc2 hp => ?_) (fun hc2 hp => ?_)
  · refine am_Rn.run am_h142 5 (F' := (22, [(0, .ref 0), (1, .int v1)], [.int 1, .int v1, .ref 80])) (S' := (am_sh, h, hm, g)) rfl ?_
    obtain ⟨hn3, hp⟩ := am_ix_e hp
    obtain ⟨h4, h_h4, hp⟩ := am_b_e hp
    refine am_Rn.stepG am_h142 (c := v1 < 0 ∨ 8 ≤ v1.toNatClampNeg) (F' := (23, [(0, .ref 0), (1, .int v1)], [])) (S' := (am_sh, h4, hm, g)) (by subst h_h4; rfl) hn3 ?_
    refine am_Rn.run am_h142 5 (F' := (32, [(0, .ref 0), (1, .int v1)], [.int (-1), .int v1, .ref 81])) (S' := (am_sh, h4, hm, g)) rfl ?_
    obtain ⟨hn5, hp⟩ := am_ix_e hp
    obtain ⟨h6, h_h6, hp⟩ := am_b_e hp
    refine am_Rn.stepG am_h142 (c := v1 < 0 ∨ 8 ≤ v1.toNatClampNeg) (F' := (33, [(0, .ref 0), (1, .int v1)], [])) (S' := (am_sh, h6, hm, g)) (by subst h_h6; rfl) hn5 ?_
    refine am_Rn.run am_h142 5 (F' := (42, [(0, .ref 0), (1, .int v1)], [.int (-1), .int v1, .ref 82])) (S' := (am_sh, h6, hm, g)) rfl ?_
    obtain ⟨hn7, hp⟩ := am_ix_e hp
    obtain ⟨h8, h_h8, hp⟩ := am_b_e hp
    refine am_Rn.stepG am_h142 (c := v1 < 0 ∨ 8 ≤ v1.toNatClampNeg) (F' := (43, [(0, .ref 0), (1, .int v1)], [])) (S' := (am_sh, h8, hm, g)) (by subst h_h8; rfl) hn7 ?_
    refine am_Rn.run am_h142 5 (F' := (52, [(0, .ref 0), (1, .int v1)], [.ref 0, .ref 1, .ref 59])) (S' := (am_sh, h8, hm, g)) rfl ?_
    obtain ⟨r9, h_r9, hp⟩ := am_bind hp
    refine am_Rn.call am_h142 (mj := 140) (As := [.ref 0]) (F' := (55, [(0, .ref 0), (1, .int v1)], [.ref 1, .ref 59])) (M' := am_m140) (r := some (.ref r9)) (S1 := (am_sh, h8, hm, g)) rfl am_h140 rfl (ezH_ruling (by omega) h8 _ h_r9) ?_
    have hk_r9 := zH_ruling_k h_r9
    obtain ⟨r10, h_r10, hp⟩ := am_bind hp
    refine am_Rn.call am_h142 (mj := 23) (As := [.ref 59, .ref 1, .ref r9]) (F' := (58, [(0, .ref 0), (1, .int v1)], [])) (M' := am_m23) (r := none) (S1 := (am_sh, r10, hm, g)) (by rcases hk_r9 with rfl | rfl | rfl | rfl | rfl <;> rfl) am_h23 rfl (ezL_learn (by omega) r9 h8 _ hk_r9 h_r10) ?_
    refine am_Rn.run am_h142 2 (F' := (62, [(0, .ref 0), (1, .int v1)], [.ref 1])) (S' := (am_sh, r10, hm, g)) (by rcases hk_r9 with rfl | rfl | rfl | rfl | rfl <;> rfl) ?_
    obtain ⟨r11, h_r11, hp⟩ := am_bind hp
    refine am_Rn.call am_h142 (mj := 89) (As := [.ref 1]) (F' := (65, [(0, .ref 0), (1, .int v1)], [])) (M' := am_m89) (r := some (.int r11)) (S1 := (am_sh, r10, hm, g)) (by rcases hk_r9 with rfl | rfl | rfl | rfl | rfl <;> rfl) am_h89 rfl (ezG_actingFigures (by omega) r10 _ h_r11) ?_
    refine am_Rn.run am_h142 3 (F' := (68, [(3, .int 0), (2, .int r11), (0, .ref 0), (1, .int v1)], [])) (S' := (am_sh, r10, hm, g)) (by rcases hk_r9 with rfl | rfl | rfl | rfl | rfl <;> rfl) ?_
    refine am_Rn.sub [2, 3, 1, 0] rfl rfl ?_
    exact ezH_findStrike_L68 hd R am_N v1 r11 0 r10 hp
  · cases hp
    exact am_Rn.ret am_h142 rfl
/-- SixHands.strike(II)I [0] -/
def zH_strike (v1 : Int32) (v2 : Int32) (h : (Nat → Nat → Int32)) : Option (Int32 × (Nat → Nat → Int32)) := am_b (zH_isSet v1 h) fun r1 => if r1 = 0 then (some (((-1), h))) else (if v2 < 0 then (some (((-1), h))) else (if 1 < v2 then (some (((-1), h))) else ((zH_findStrike v1 h).bind fun r5 => if v2 = 0 then (am_ix 8 v1 (some ((r5 81 (v1.toNatClampNeg), r5)))) else (am_ix 8 v1 (some ((r5 82 (v1.toNatClampNeg), r5)))))))
set_option maxRecDepth 20000 in
theorem ezH_strike {d : Nat} (hd : 14 ≤ d) (v1 : Int32) (v2 : Int32) (h : (Nat → Nat → Int32)) (R : Int32 × (Nat → Nat → Int32)) (hp : zH_strike v1 v2 h = some R) : am_Ev 83 Xs am_P d 128 [.ref 0, .int v1, .int v2] (am_sh, h, hm, g) (some (.int R.1), (am_sh, R.2, hm, g)) := by
  obtain ⟨d, rfl⟩ : ∃ k, d = k + 1 := ⟨d - 1, by omega⟩
  unfold zH_strike at hp
  show am_Rn 83 Xs am_P _ 128 (0, [(0, .ref 0), (1, .int v1), (2, .int v2)], []) _ _
  refine am_Rn.run am_h128 2 (F' := (2, [(0, .ref 0), (1, .int v1), (2, .int v2)], [.int v1, .ref 0])) (S' := (am_sh, h, hm, g)) rfl ?_
  obtain ⟨r1, h_r1, hp⟩ := am_b_e hp
  refine am_Rn.call am_h128 (mj := 138) (As := [.ref 0, .int v1]) (F' := (5, [(0, .ref 0), (1, .int v1), (2, .int v2)], [])) (M' := am_m138) (r := some (.int r1)) (S1 := (am_sh, h, hm, g)) rfl am_h138 rfl (by subst h_r1; exact (ezH_isSet (by omega) v1 h)) ?_
  refine am_Rn.ite am_h128 (c := r1 = 0) (t := 17) (f := 8) (lv := [(0, .ref 0), (1, .int v1), (2, .int v2)]) (st := []) (S' := (am_sh, h, hm, g)) rfl hp (fun hc2 hp => ?_) (fun hc2 hp => ?_)
  · refine am_Rn.run am_h128 1 (F' := (18, [(0, .ref 0), (1, .int v1), (2, .int v2)], [.int (-1)])) (S' := (am_sh, h, hm, g)) rfl ?_
    cases hp
    exact am_Rn.ret am_h128 rfl
  · refine am_Rn.run am_h128 1 (F' := (9, [(0, .ref 0), (1, .int v1), (2, .int v2)], [.int v2])) (S' := (am_sh, h, hm, g)) rfl ?_
    refine am_Rn.ite am_h128 (c := v2 < 0) (t := 17) (f := 12) (lv := [(0, .ref 0), (1, .int v1), (2, .int v2)]) (st := []) (S' := (am_sh, h, hm, g)) rfl hp (fun hc3 hp => ?_) (fun hc3 hp => ?_)
    · refine am_Rn.run am_h128 1 (F' := (18, [(0, .ref 0), (1, .int v1), (2, .int v2)], [.int (-1)])) (S' := (am_sh, h, hm, g)) rfl ?_
      cases hp
      exact am_Rn.ret am_h128 rfl
    · refine am_Rn.run am_h128 2 (F' := (14, [(0, .ref 0), (1, .int v1), (2, .int v2)], [.int 1, .int v2])) (S' := (am_sh, h, hm, g)) rfl ?_
      refine am_Rn.ite am_h128 (c := 1 < v2) (t := 17) (f := 19) (lv := [(0, .ref 0), (1, .int v1), (2, .int v2)]) (st := []) (S' := (am_sh, h, hm, g)) rfl hp (fun hc4 hp => ?_) (fun hc4 hp => ?_)
      · refine am_Rn.run am_h128 1 (F' := (18, [(0, .ref 0), (1, .int v1), (2, .int v2)], [.int (-1)])) (S' := (am_sh, h, hm, g)) rfl ?_
        cases hp
        exact am_Rn.ret am_h128 rfl
      · refine am_Rn.run am_h128 2 (F' := (21, [(0, .ref 0), (1, .int v1), (2, .int v2)], [.int v1, .ref 0])) (S' := (am_sh, h, hm, g)) rfl ?_
        obtain ⟨r5, h_r5, hp⟩ := am_bind hp
        refine am_Rn.call am_h128 (mj := 142) (As := [.ref 0, .int v1]) (F' := (24, [(0, .ref 0), (1, .int v1), (2, .int v2)], [])) (M' := am_m142) (r := none) (S1 := (am_sh, r5, hm, g)) rfl am_h142 rfl (ezH_findStrike (by omega) v1 h _ h_r5) ?_
        refine am_Rn.run am_h128 1 (F' := (25, [(0, .ref 0), (1, .int v1), (2, .int v2)], [.int v2])) (S' := (am_sh, r5, hm, g)) rfl ?_
        refine am_Rn.ite am_h128 (c := v2 = 0) (t := 28) (f := 40) (lv := [(0, .ref 0), (1, .int v1), (2, .int v2)]) (st := []) (S' := (am_sh, r5, hm, g)) rfl hp (fun hc6 hp => ?_) (fun hc6 hp => ?_)
        · refine am_Rn.run am_h128 4 (F' := (36, [(0, .ref 0), (1, .int v1), (2, .int v2)], [.int v1, .ref 81])) (S' := (am_sh, r5, hm, g)) rfl ?_
          obtain ⟨hn7, hp⟩ := am_ix_e hp
          refine am_Rn.stepG am_h128 (c := v1 < 0 ∨ 8 ≤ v1.toNatClampNeg) (F' := (37, [(0, .ref 0), (1, .int v1), (2, .int v2)], [.int (r5 81 (v1.toNatClampNeg))])) (S' := (am_sh, r5, hm, g)) rfl hn7 ?_
          refine am_Rn.run am_h128 1 (F' := (49, [(0, .ref 0), (1, .int v1), (2, .int v2)], [.int (r5 81 (v1.toNatClampNeg))])) (S' := (am_sh, r5, hm, g)) rfl ?_
          cases hp
          exact am_Rn.ret am_h128 rfl
        · refine am_Rn.run am_h128 4 (F' := (48, [(0, .ref 0), (1, .int v1), (2, .int v2)], [.int v1, .ref 82])) (S' := (am_sh, r5, hm, g)) rfl ?_
          obtain ⟨hn8, hp⟩ := am_ix_e hp
          refine am_Rn.stepG am_h128 (c := v1 < 0 ∨ 8 ≤ v1.toNatClampNeg) (F' := (49, [(0, .ref 0), (1, .int v1), (2, .int v2)], [.int (r5 82 (v1.toNatClampNeg))])) (S' := (am_sh, r5, hm, g)) rfl hn8 ?_
          cases hp
          exact am_Rn.ret am_h128 rfl
/-- SixHands$Search.swapsFromTold(LSixHands$Stage;II)I [65, 1] -/
def zS_swapsFromTold_L6 : Nat → Int32 → Int32 → Int32 → Int32 → (Nat → Nat → Int32) → Option (Int32)
  | 0, _, _, _, _, _ => none
  | n + 1, v2, v3, v4, v5, h => if v5 < (h 65 2) then (am_ix 144 (((v2 - 1) * 6) + v5) (am_b (h 9 ((((v2 - 1) * 6) + v5).toNatClampNeg)) fun x3 => (zS_handsIn v3 v5 h).bind fun r4 => (zG_staysOn v2 v5 h).bind fun r5 => if r5 = 0 then (zS_swapsFromTold_L6 n v2 v3 v4 (v5 + 1) h) else (if x3 = r4 then (zS_swapsFromTold_L6 n v2 v3 v4 (v5 + 1) h) else (am_ix 144 ((v2 * 6) + v5) ((zH_swapBit x3 r4).bind fun r9 => if ((h 70 (((v2 * 6) + v5).toNatClampNeg)) &&& r9) = 0 then (some 1000000) else (zS_swapsFromTold_L6 n v2 v3 (v4 + 1) (v5 + 1) h)))))) else (some v4)
set_option maxRecDepth 20000 in
theorem ezS_swapsFromTold_L6 {d : Nat} (hd : 2 ≤ d) (R : Int32) : ∀ (n : Nat) (v2 : Int32) (v3 : Int32) (v4 : Int32) (v5 : Int32) (h : (Nat → Nat → Int32)), zS_swapsFromTold_L6 n v2 v3 v4 v5 h = some R → am_Rn 83 Xs am_P d 69 (6, [(0, .ref 65), (1, .ref 1), (2, .int v2), (3, .int v3), (4, .int v4), (5, .int v5)], []) (am_sh, h, hm, g) (some (.int R), (am_sh, h, hm, g))
  | 0, _, _, _, _, _, hp => by cases hp
  | n + 1, v2, v3, v4, v5, h, hp => by
    obtain ⟨d, rfl⟩ : ∃ k, d = k + 1 := ⟨d - 1, by omega⟩
    unfold zS_swapsFromTold_L6 at hp
    refine am_Rn.run am_h69 3 (F' := (12, [(0, .ref 65), (1, .ref 1), (2, .int v2), (3, .int v3), (4, .int v4), (5, .int v5)], [.int (h 65 2), .int v5])) (S' := (am_sh, h, hm, g)) rfl ?_
    refine am_Rn.ite am_h69 (c := v5 < (h 65 2)) (t := 15) (f := 92) (lv := [(0, .ref 65), (1, .ref 1), (2, .int v2), (3, .int v3), (4, .int v4), (5, .int v5)]) (st := []) (S' := (am_sh, h, hm, g)) rfl hp (fun hc1 hp => ?_) (fun hc1 hp => ?_)
    · refine am_Rn.run am_h69 9 (F' := (28, [(0, .ref 65), (1, .ref 1), (2, .int v2), (3, .int v3), (4, .int v4), (5, .int v5)], [.int (((v2 - 1) * 6) + v5), .ref 9])) (S' := (am_sh, h, hm, g)) rfl ?_
      obtain ⟨hn2, hp⟩ := am_ix_e hp
      refine am_Rn.stepG am_h69 (c := (((v2 - 1) * 6) + v5) < 0 ∨ 144 ≤ (((v2 - 1) * 6) + v5).toNatClampNeg) (F' := (29, [(0, .ref 65), (1, .ref 1), (2, .int v2), (3, .int v3), (4, .int v4), (5, .int v5)], [.int (h 9 ((((v2 - 1) * 6) + v5).toNatClampNeg))])) (S' := (am_sh, h, hm, g)) rfl hn2 ?_
      obtain ⟨x3, h_x3, hp⟩ := am_b_e hp
      refine am_Rn.run am_h69 4 (F' := (35, [(6, .int x3), (0, .ref 65), (1, .ref 1), (2, .int v2), (3, .int v3), (4, .int v4), (5, .int v5)], [.int v5, .int v3, .ref 65])) (S' := (am_sh, h, hm, g)) (by subst h_x3; rfl) ?_
      obtain ⟨r4, h_r4, hp⟩ := am_bind hp
      refine am_Rn.call am_h69 (mj := 65) (As := [.ref 65, .int v3, .int v5]) (F' := (38, [(6, .int x3), (0, .ref 65), (1, .ref 1), (2, .int v2), (3, .int v3), (4, .int v4), (5, .int v5)], [])) (M' := am_m65) (r := some (.int r4)) (S1 := (am_sh, h, hm, g)) rfl am_h65 rfl (ezS_handsIn (by omega) v3 v5 h _ h_r4) ?_
      refine am_Rn.run am_h69 4 (F' := (44, [(7, .int r4), (6, .int x3), (0, .ref 65), (1, .ref 1), (2, .int v2), (3, .int v3), (4, .int v4), (5, .int v5)], [.int v5, .int v2, .ref 1])) (S' := (am_sh, h, hm, g)) rfl ?_
      obtain ⟨r5, h_r5, hp⟩ := am_bind hp
      refine am_Rn.call am_h69 (mj := 86) (As := [.ref 1, .int v2, .int v5]) (F' := (47, [(7, .int r4), (6, .int x3), (0, .ref 65), (1, .ref 1), (2, .int v2), (3, .int v3), (4, .int v4), (5, .int v5)], [])) (M' := am_m86) (r := some (.int r5)) (S1 := (am_sh, h, hm, g)) rfl am_h86 rfl (ezG_staysOn (by omega) v2 v5 h _ h_r5) ?_
      refine am_Rn.ite am_h69 (c := r5 = 0) (t := 86) (f := 50) (lv := [(7, .int r4), (6, .int x3), (0, .ref 65), (1, .ref 1), (2, .int v2), (3, .int v3), (4, .int v4), (5, .int v5)]) (st := []) (S' := (am_sh, h, hm, g)) rfl hp (fun hc6 hp => ?_) (fun hc6 hp => ?_)
      · refine am_Rn.run am_h69 2 (F' := (6, [(5, .int (v5 + 1)), (7, .int r4), (6, .int x3), (0, .ref 65), (1, .ref 1), (2, .int v2), (3, .int v3), (4, .int v4)], [])) (S' := (am_sh, h, hm, g)) rfl ?_
        refine am_Rn.sub [3, 4, 5, 6, 7, 0] rfl rfl ?_
        exact ezS_swapsFromTold_L6 hd R n v2 v3 v4 (v5 + 1) h hp
      · refine am_Rn.run am_h69 2 (F' := (54, [(7, .int r4), (6, .int x3), (0, .ref 65), (1, .ref 1), (2, .int v2), (3, .int v3), (4, .int v4), (5, .int v5)], [.int r4, .int x3])) (S' := (am_sh, h, hm, g)) rfl ?_
        refine am_Rn.ite am_h69 (c := x3 = r4) (t := 86) (f := 57) (lv := [(7, .int r4), (6, .int x3), (0, .ref 65), (1, .ref 1), (2, .int v2), (3, .int v3), (4, .int v4), (5, .int v5)]) (st := []) (S' := (am_sh, h, hm, g)) rfl hp (fun hc7 hp => ?_) (fun hc7 hp => ?_)
        · refine am_Rn.run am_h69 2 (F' := (6, [(5, .int (v5 + 1)), (7, .int r4), (6, .int x3), (0, .ref 65), (1, .ref 1), (2, .int v2), (3, .int v3), (4, .int v4)], [])) (S' := (am_sh, h, hm, g)) rfl ?_
          refine am_Rn.sub [3, 4, 5, 6, 7, 0] rfl rfl ?_
          exact ezS_swapsFromTold_L6 hd R n v2 v3 v4 (v5 + 1) h hp
        · refine am_Rn.run am_h69 7 (F' := (68, [(7, .int r4), (6, .int x3), (0, .ref 65), (1, .ref 1), (2, .int v2), (3, .int v3), (4, .int v4), (5, .int v5)], [.int ((v2 * 6) + v5), .ref 70])) (S' := (am_sh, h, hm, g)) rfl ?_
          obtain ⟨hn8, hp⟩ := am_ix_e hp
          refine am_Rn.stepG am_h69 (c := ((v2 * 6) + v5) < 0 ∨ 144 ≤ ((v2 * 6) + v5).toNatClampNeg) (F' := (69, [(7, .int r4), (6, .int x3), (0, .ref 65), (1, .ref 1), (2, .int v2), (3, .int v3), (4, .int v4), (5, .int v5)], [.int (h 70 (((v2 * 6) + v5).toNatClampNeg))])) (S' := (am_sh, h, hm, g)) rfl hn8 ?_
          refine am_Rn.run am_h69 2 (F' := (73, [(7, .int r4), (6, .int x3), (0, .ref 65), (1, .ref 1), (2, .int v2), (3, .int v3), (4, .int v4), (5, .int v5)], [.int r4, .int x3, .int (h 70 (((v2 * 6) + v5).toNatClampNeg))])) (S' := (am_sh, h, hm, g)) rfl ?_
          obtain ⟨r9, h_r9, hp⟩ := am_bind hp
          refine am_Rn.call am_h69 (mj := 149) (As := [.int x3, .int r4]) (F' := (76, [(7, .int r4), (6, .int x3), (0, .ref 65), (1, .ref 1), (2, .int v2), (3, .int v3), (4, .int v4), (5, .int v5)], [.int (h 70 (((v2 * 6) + v5).toNatClampNeg))])) (M' := am_m149) (r := some (.int r9)) (S1 := (am_sh, h, hm, g)) rfl am_h149 rfl (ezH_swapBit (by omega) x3 r4 _ h_r9) ?_
          refine am_Rn.run am_h69 1 (F' := (77, [(7, .int r4), (6, .int x3), (0, .ref 65), (1, .ref 1), (2, .int v2), (3, .int v3), (4, .int v4), (5, .int v5)], [.int ((h 70 (((v2 * 6) + v5).toNatClampNeg)) &&& r9)])) (S' := (am_sh, h, hm, g)) rfl ?_
          refine am_Rn.ite am_h69 (c := ((h 70 (((v2 * 6) + v5).toNatClampNeg)) &&& r9) = 0) (t := 80) (f := 83) (lv := [(7, .int r4), (6, .int x3), (0, .ref 65), (1, .ref 1), (2, .int v2), (3, .int v3), (4, .int v4), (5, .int v5)]) (st := []) (S' := (am_sh, h, hm, g)) rfl hp (fun hc10 hp => ?_) (fun hc10 hp => ?_)
          · refine am_Rn.run am_h69 1 (F' := (82, [(7, .int r4), (6, .int x3), (0, .ref 65), (1, .ref 1), (2, .int v2), (3, .int v3), (4, .int v4), (5, .int v5)], [.int 1000000])) (S' := (am_sh, h, hm, g)) rfl ?_
            cases hp
            exact am_Rn.ret am_h69 rfl
          · refine am_Rn.run am_h69 3 (F' := (6, [(5, .int (v5 + 1)), (4, .int (v4 + 1)), (7, .int r4), (6, .int x3), (0, .ref 65), (1, .ref 1), (2, .int v2), (3, .int v3)], [])) (S' := (am_sh, h, hm, g)) rfl ?_
            refine am_Rn.sub [4, 5, 6, 7, 1, 0] rfl rfl ?_
            exact ezS_swapsFromTold_L6 hd R n v2 v3 (v4 + 1) (v5 + 1) h hp
    · refine am_Rn.run am_h69 1 (F' := (94, [(0, .ref 65), (1, .ref 1), (2, .int v2), (3, .int v3), (4, .int v4), (5, .int v5)], [.int v4])) (S' := (am_sh, h, hm, g)) rfl ?_
      cases hp
      exact am_Rn.ret am_h69 rfl
def zS_swapsFromTold (v2 : Int32) (v3 : Int32) (h : (Nat → Nat → Int32)) : Option (Int32) := zS_swapsFromTold_L6 am_N v2 v3 0 0 h
set_option maxRecDepth 20000 in
theorem ezS_swapsFromTold {d : Nat} (hd : 2 ≤ d) (v2 : Int32) (v3 : Int32) (h : (Nat → Nat → Int32)) (R : Int32) (hp : zS_swapsFromTold v2 v3 h = some R) : am_Ev 83 Xs am_P d 69 [.ref 65, .ref 1, .int v2, .int v3] (am_sh, h, hm, g) (some (.int R), (am_sh, h, hm, g)) := by
  obtain ⟨d, rfl⟩ : ∃ k, d = k + 1 := ⟨d - 1, by omega⟩
  unfold zS_swapsFromTold at hp
  show am_Rn 83 Xs am_P _ 69 (0, [(0, .ref 65), (1, .ref 1), (2, .int v2), (3, .int v3)], []) _ _
  refine am_Rn.run am_h69 4 (F' := (6, [(5, .int 0), (4, .int 0), (0, .ref 65), (1, .ref 1), (2, .int v2), (3, .int v3)], [])) (S' := (am_sh, h, hm, g)) rfl ?_
  refine am_Rn.sub [2, 3, 4, 5, 1, 0] rfl rfl ?_
  exact ezS_swapsFromTold_L6 hd R am_N v2 v3 0 0 h hp
/-- SixHands$Search.fewestBehind(LSixHands$Stage;I)I [65, 1] -/
def zS_fewestBehind_L14 : Nat → Int32 → Int32 → Int32 → Int32 → (Nat → Nat → Int32) → Option (Int32)
  | 0, _, _, _, _, _ => none
  | n + 1, v2, v3, v4, v5, h => am_ix 24 v2 (if v5 < (v4 + (h 73 (v2.toNatClampNeg))) then (am_ix 17280 v5 (am_ix 17280 v5 ((zS_swapsFromTold v2 (h 71 (v5.toNatClampNeg)) h).bind fun r6 => am_b (zD_min v3 ((h 72 (v5.toNatClampNeg)) + r6)) fun r7 => zS_fewestBehind_L14 n v2 r7 v4 (v5 + 1) h))) else (some v3))
set_option maxRecDepth 20000 in
theorem ezS_fewestBehind_L14 {d : Nat} (hd : 3 ≤ d) (R : Int32) : ∀ (n : Nat) (v2 : Int32) (v3 : Int32) (v4 : Int32) (v5 : Int32) (h : (Nat → Nat → Int32)), zS_fewestBehind_L14 n v2 v3 v4 v5 h = some R → am_Rn 83 Xs am_P d 68 (14, [(0, .ref 65), (1, .ref 1), (2, .int v2), (3, .int v3), (4, .int v4), (5, .int v5)], []) (am_sh, h, hm, g) (some (.int R), (am_sh, h, hm, g))
  | 0, _, _, _, _, _, hp => by cases hp
  | n + 1, v2, v3, v4, v5, h, hp => by
    obtain ⟨d, rfl⟩ : ∃ k, d = k + 1 := ⟨d - 1, by omega⟩
    unfold zS_fewestBehind_L14 at hp
    refine am_Rn.run am_h68 5 (F' := (23, [(0, .ref 65), (1, .ref 1), (2, .int v2), (3, .int v3), (4, .int v4), (5, .int v5)], [.int v2, .ref 73, .int v4, .int v5])) (S' := (am_sh, h, hm, g)) rfl ?_
    obtain ⟨hn2, hp⟩ := am_ix_e hp
    refine am_Rn.stepG am_h68 (c := v2 < 0 ∨ 24 ≤ v2.toNatClampNeg) (F' := (24, [(0, .ref 65), (1, .ref 1), (2, .int v2), (3, .int v3), (4, .int v4), (5, .int v5)], [.int (h 73 (v2.toNatClampNeg)), .int v4, .int v5])) (S' := (am_sh, h, hm, g)) rfl hn2 ?_
    refine am_Rn.run am_h68 1 (F' := (25, [(0, .ref 65), (1, .ref 1), (2, .int v2), (3, .int v3), (4, .int v4), (5, .int v5)], [.int (v4 + (h 73 (v2.toNatClampNeg))), .int v5])) (S' := (am_sh, h, hm, g)) rfl ?_
    refine am_Rn.ite am_h68 (c := v5 < (v4 + (h 73 (v2.toNatClampNeg)))) (t := 28) (f := 60) (lv := [(0, .ref 65), (1, .ref 1), (2, .int v2), (3, .int v3), (4, .int v4), (5, .int v5)]) (st := []) (S' := (am_sh, h, hm, g)) rfl hp (fun hc3 hp => ?_) (fun hc3 hp => ?_)
    · refine am_Rn.run am_h68 4 (F' := (35, [(0, .ref 65), (1, .ref 1), (2, .int v2), (3, .int v3), (4, .int v4), (5, .int v5)], [.int v5, .ref 72, .int v3])) (S' := (am_sh, h, hm, g)) rfl ?_
      obtain ⟨hn4, hp⟩ := am_ix_e hp
      refine am_Rn.stepG am_h68 (c := v5 < 0 ∨ 17280 ≤ v5.toNatClampNeg) (F' := (36, [(0, .ref 65), (1, .ref 1), (2, .int v2), (3, .int v3), (4, .int v4), (5, .int v5)], [.int (h 72 (v5.toNatClampNeg)), .int v3])) (S' := (am_sh, h, hm, g)) rfl hn4 ?_
      refine am_Rn.run am_h68 6 (F' := (45, [(0, .ref 65), (1, .ref 1), (2, .int v2), (3, .int v3), (4, .int v4), (5, .int v5)], [.int v5, .ref 71, .int v2, .ref 1, .ref 65, .int (h 72 (v5.toNatClampNeg)), .int v3])) (S' := (am_sh, h, hm, g)) rfl ?_
      obtain ⟨hn5, hp⟩ := am_ix_e hp
      refine am_Rn.stepG am_h68 (c := v5 < 0 ∨ 17280 ≤ v5.toNatClampNeg) (F' := (46, [(0, .ref 65), (1, .ref 1), (2, .int v2), (3, .int v3), (4, .int v4), (5, .int v5)], [.int (h 71 (v5.toNatClampNeg)), .int v2, .ref 1, .ref 65, .int (h 72 (v5.toNatClampNeg)), .int v3])) (S' := (am_sh, h, hm, g)) rfl hn5 ?_
      obtain ⟨r6, h_r6, hp⟩ := am_bind hp
      refine am_Rn.call am_h68 (mj := 69) (As := [.ref 65, .ref 1, .int v2, .int (h 71 (v5.toNatClampNeg))]) (F' := (49, [(0, .ref 65), (1, .ref 1), (2, .int v2), (3, .int v3), (4, .int v4), (5, .int v5)], [.int (h 72 (v5.toNatClampNeg)), .int v3])) (M' := am_m69) (r := some (.int r6)) (S1 := (am_sh, h, hm, g)) rfl am_h69 rfl (ezS_swapsFromTold (by omega) v2 (h 71 (v5.toNatClampNeg)) h _ h_r6) ?_
      refine am_Rn.run am_h68 1 (F' := (50, [(0, .ref 65), (1, .ref 1), (2, .int v2), (3, .int v3), (4, .int v4), (5, .int v5)], [.int ((h 72 (v5.toNatClampNeg)) + r6), .int v3])) (S' := (am_sh, h, hm, g)) rfl ?_
      obtain ⟨r7, h_r7, hp⟩ := am_b_e hp
      refine am_Rn.call am_h68 (mj := 4) (As := [.int v3, .int ((h 72 (v5.toNatClampNeg)) + r6)]) (F' := (53, [(0, .ref 65), (1, .ref 1), (2, .int v2), (3, .int v3), (4, .int v4), (5, .int v5)], [])) (M' := am_m4) (r := some (.int r7)) (S1 := (am_sh, h, hm, g)) rfl am_h4 rfl (by subst h_r7; exact (ezD_min (by omega) v3 ((h 72 (v5.toNatClampNeg)) + r6))) ?_
      refine am_Rn.run am_h68 3 (F' := (14, [(5, .int (v5 + 1)), (3, .int r7), (0, .ref 65), (1, .ref 1), (2, .int v2), (4, .int v4)], [])) (S' := (am_sh, h, hm, g)) rfl ?_
      refine am_Rn.sub [2, 3, 4, 1, 5, 0] rfl rfl ?_
      exact ezS_fewestBehind_L14 hd R n v2 r7 v4 (v5 + 1) h hp
    · refine am_Rn.run am_h68 1 (F' := (61, [(0, .ref 65), (1, .ref 1), (2, .int v2), (3, .int v3), (4, .int v4), (5, .int v5)], [.int v3])) (S' := (am_sh, h, hm, g)) rfl ?_
      cases hp
      exact am_Rn.ret am_h68 rfl
def zS_fewestBehind (v2 : Int32) (h : (Nat → Nat → Int32)) : Option (Int32) := am_b (v2 * 720) fun x1 => zS_fewestBehind_L14 am_N v2 1000000 x1 x1 h
set_option maxRecDepth 20000 in
theorem ezS_fewestBehind {d : Nat} (hd : 3 ≤ d) (v2 : Int32) (h : (Nat → Nat → Int32)) (R : Int32) (hp : zS_fewestBehind v2 h = some R) : am_Ev 83 Xs am_P d 68 [.ref 65, .ref 1, .int v2] (am_sh, h, hm, g) (some (.int R), (am_sh, h, hm, g)) := by
  obtain ⟨d, rfl⟩ : ∃ k, d = k + 1 := ⟨d - 1, by omega⟩
  unfold zS_fewestBehind at hp
  show am_Rn 83 Xs am_P _ 68 (0, [(0, .ref 65), (1, .ref 1), (2, .int v2)], []) _ _
  obtain ⟨x1, h_x1, hp⟩ := am_b_e hp
  refine am_Rn.run am_h68 8 (F' := (14, [(5, .int x1), (4, .int x1), (3, .int 1000000), (0, .ref 65), (1, .ref 1), (2, .int v2)], [])) (S' := (am_sh, h, hm, g)) (by subst h_x1; rfl) ?_
  refine am_Rn.sub [3, 4, 5, 2, 1, 0] rfl rfl ?_
  exact ezS_fewestBehind_L14 hd R am_N v2 1000000 x1 x1 h hp
/-- SixHands.ill(II)I [0] -/
def zH_ill_J106 (v3 : Int32) (h : (Nat → Nat → Int32)) : Option (Int32 × (Nat → Nat → Int32)) := if v3 < 1000000 then (some ((v3, h))) else (some (((-1), h)))
set_option maxRecDepth 20000 in
theorem ezH_ill_J106 {d : Nat} (hd : 12 ≤ d) (R : Int32 × (Nat → Nat → Int32)) (v3 : Int32) (h : (Nat → Nat → Int32)) (hp : zH_ill_J106 v3 h = some R) : am_Rn 83 Xs am_P d 129 (106, [(3, .int v3)], []) (am_sh, h, hm, g) (some (.int R.1), (am_sh, R.2, hm, g)) := by
  obtain ⟨d, rfl⟩ : ∃ k, d = k + 1 := ⟨d - 1, by omega⟩
  unfold zH_ill_J106 at hp
  refine am_Rn.run am_h129 2 (F' := (109, [(3, .int v3)], [.int 1000000, .int v3])) (S' := (am_sh, h, hm, g)) rfl ?_
  refine am_Rn.ite am_h129 (c := v3 < 1000000) (t := 112) (f := 116) (lv := [(3, .int v3)]) (st := []) (S' := (am_sh, h, hm, g)) rfl hp (fun hc14 hp => ?_) (fun hc14 hp => ?_)
  · refine am_Rn.run am_h129 2 (F' := (117, [(3, .int v3)], [.int v3])) (S' := (am_sh, h, hm, g)) rfl ?_
    cases hp
    exact am_Rn.ret am_h129 rfl
  · refine am_Rn.run am_h129 1 (F' := (117, [(3, .int v3)], [.int (-1)])) (S' := (am_sh, h, hm, g)) rfl ?_
    cases hp
    exact am_Rn.ret am_h129 rfl
def zH_ill (v1 : Int32) (v2 : Int32) (h : (Nat → Nat → Int32)) : Option (Int32 × (Nat → Nat → Int32)) := if v1 < 0 then (some (((-1), h))) else (if v1 < (h 1 1) then (am_b (zH_isBeat v2 h) fun r3 => if r3 = 0 then (some (((-1), h))) else ((zH_ruling h).bind fun r5 => (zL_learn r5 h).bind fun r6 => am_b (zH_everybody r6) fun r7 => (zS_load (r7 &&& (((1 : Int32) <<< (v1 &&& 31)) ^^^ (-1))) 0 r6).bind fun r8 => am_b (va_up r8 65 (upd (r8 65) 0 1)) fun h9 => (zS_run v2 h9).bind fun r10 => if r10.1 < 1000000 then (if 0 < v2 then ((zS_fewestBehind v2 r10.2).bind fun r13 => zH_ill_J106 r13 r10.2) else (zH_ill_J106 r10.1 r10.2)) else (zH_ill_J106 r10.1 r10.2))) else (some (((-1), h))))
set_option maxRecDepth 20000 in
theorem ezH_ill {d : Nat} (hd : 12 ≤ d) (v1 : Int32) (v2 : Int32) (h : (Nat → Nat → Int32)) (R : Int32 × (Nat → Nat → Int32)) (hp : zH_ill v1 v2 h = some R) : am_Ev 83 Xs am_P d 129 [.ref 0, .int v1, .int v2] (am_sh, h, hm, g) (some (.int R.1), (am_sh, R.2, hm, g)) := by
  obtain ⟨d, rfl⟩ : ∃ k, d = k + 1 := ⟨d - 1, by omega⟩
  unfold zH_ill at hp
  show am_Rn 83 Xs am_P _ 129 (0, [(0, .ref 0), (1, .int v1), (2, .int v2)], []) _ _
  refine am_Rn.run am_h129 1 (F' := (1, [(0, .ref 0), (1, .int v1), (2, .int v2)], [.int v1])) (S' := (am_sh, h, hm, g)) rfl ?_
  refine am_Rn.ite am_h129 (c := v1 < 0) (t := 23) (f := 4) (lv := [(0, .ref 0), (1, .int v1), (2, .int v2)]) (st := []) (S' := (am_sh, h, hm, g)) rfl hp (fun hc1 hp => ?_) (fun hc1 hp => ?_)
  · refine am_Rn.run am_h129 1 (F' := (24, [(0, .ref 0), (1, .int v1), (2, .int v2)], [.int (-1)])) (S' := (am_sh, h, hm, g)) rfl ?_
    cases hp
    exact am_Rn.ret am_h129 rfl
  · refine am_Rn.run am_h129 4 (F' := (12, [(0, .ref 0), (1, .int v1), (2, .int v2)], [.int (h 1 1), .int v1])) (S' := (am_sh, h, hm, g)) rfl ?_
    refine am_Rn.ite am_h129 (c := v1 < (h 1 1)) (t := 15) (f := 23) (lv := [(0, .ref 0), (1, .int v1), (2, .int v2)]) (st := []) (S' := (am_sh, h, hm, g)) rfl hp (fun hc2 hp => ?_) (fun hc2 hp => ?_)
    · refine am_Rn.run am_h129 2 (F' := (17, [(0, .ref 0), (1, .int v1), (2, .int v2)], [.int v2, .ref 0])) (S' := (am_sh, h, hm, g)) rfl ?_
      obtain ⟨r3, h_r3, hp⟩ := am_b_e hp
      refine am_Rn.call am_h129 (mj := 135) (As := [.ref 0, .int v2]) (F' := (20, [(0, .ref 0), (1, .int v1), (2, .int v2)], [])) (M' := am_m135) (r := some (.int r3)) (S1 := (am_sh, h, hm, g)) rfl am_h135 rfl (by subst h_r3; exact (ezH_isBeat (by omega) v2 h)) ?_
      refine am_Rn.ite am_h129 (c := r3 = 0) (t := 23) (f := 25) (lv := [(0, .ref 0), (1, .int v1), (2, .int v2)]) (st := []) (S' := (am_sh, h, hm, g)) rfl hp (fun hc4 hp => ?_) (fun hc4 hp => ?_)
      · refine am_Rn.run am_h129 1 (F' := (24, [(0, .ref 0), (1, .int v1), (2, .int v2)], [.int (-1)])) (S' := (am_sh, h, hm, g)) rfl ?_
        cases hp
        exact am_Rn.ret am_h129 rfl
      · refine am_Rn.run am_h129 5 (F' := (34, [(0, .ref 0), (1, .int v1), (2, .int v2)], [.ref 0, .ref 1, .ref 59])) (S' := (am_sh, h, hm, g)) rfl ?_
        obtain ⟨r5, h_r5, hp⟩ := am_bind hp
        refine am_Rn.call am_h129 (mj := 140) (As := [.ref 0]) (F' := (37, [(0, .ref 0), (1, .int v1), (2, .int v2)], [.ref 1, .ref 59])) (M' := am_m140) (r := some (.ref r5)) (S1 := (am_sh, h, hm, g)) rfl am_h140 rfl (ezH_ruling (by omega) h _ h_r5) ?_
        have hk_r5 := zH_ruling_k h_r5
        obtain ⟨r6, h_r6, hp⟩ := am_bind hp
        refine am_Rn.call am_h129 (mj := 23) (As := [.ref 59, .ref 1, .ref r5]) (F' := (40, [(0, .ref 0), (1, .int v1), (2, .int v2)], [])) (M' := am_m23) (r := none) (S1 := (am_sh, r6, hm, g)) (by rcases hk_r5 with rfl | rfl | rfl | rfl | rfl <;> rfl) am_h23 rfl (ezL_learn (by omega) r5 h _ hk_r5 h_r6) ?_
        refine am_Rn.run am_h129 7 (F' := (53, [(0, .ref 0), (1, .int v1), (2, .int v2)], [.ref 0, .ref 59, .ref 1, .ref 65])) (S' := (am_sh, r6, hm, g)) (by rcases hk_r5 with rfl | rfl | rfl | rfl | rfl <;> rfl) ?_
        obtain ⟨r7, h_r7, hp⟩ := am_b_e hp
        refine am_Rn.call am_h129 (mj := 139) (As := [.ref 0]) (F' := (56, [(0, .ref 0), (1, .int v1), (2, .int v2)], [.ref 59, .ref 1, .ref 65])) (M' := am_m139) (r := some (.int r7)) (S1 := (am_sh, r6, hm, g)) (by rcases hk_r5 with rfl | rfl | rfl | rfl | rfl <;> rfl) am_h139 rfl (by subst h_r7; exact (ezH_everybody (by omega) r6)) ?_
        refine am_Rn.run am_h129 7 (F' := (63, [(0, .ref 0), (1, .int v1), (2, .int v2)], [.int 0, .int (r7 &&& (((1 : Int32) <<< (v1 &&& 31)) ^^^ (-1))), .ref 59, .ref 1, .ref 65])) (S' := (am_sh, r6, hm, g)) (by rcases hk_r5 with rfl | rfl | rfl | rfl | rfl <;> rfl) ?_
        obtain ⟨r8, h_r8, hp⟩ := am_bind hp
        refine am_Rn.call am_h129 (mj := 51) (As := [.ref 65, .ref 1, .ref 59, .int (r7 &&& (((1 : Int32) <<< (v1 &&& 31)) ^^^ (-1))), .int 0]) (F' := (66, [(0, .ref 0), (1, .int v1), (2, .int v2)], [])) (M' := am_m51) (r := none) (S1 := (am_sh, r8, hm, g)) (by rcases hk_r5 with rfl | rfl | rfl | rfl | rfl <;> rfl) am_h51 rfl (ezS_load (by omega) (r7 &&& (((1 : Int32) <<< (v1 &&& 31)) ^^^ (-1))) 0 r6 _ h_r8) ?_
        obtain ⟨h9, h_h9, hp⟩ := am_b_e hp
        refine am_Rn.run am_h129 7 (F' := (79, [(0, .ref 0), (1, .int v1), (2, .int v2)], [.int v2, .ref 65])) (S' := (am_sh, h9, hm, g)) (by subst h_h9; rcases hk_r5 with rfl | rfl | rfl | rfl | rfl <;> rfl) ?_
        obtain ⟨r10, h_r10, hp⟩ := am_bind hp
        refine am_Rn.call am_h129 (mj := 52) (As := [.ref 65, .int v2]) (F' := (82, [(0, .ref 0), (1, .int v1), (2, .int v2)], [])) (M' := am_m52) (r := some (.int r10.1)) (S1 := (am_sh, r10.2, hm, g)) (by rcases hk_r5 with rfl | rfl | rfl | rfl | rfl <;> rfl) am_h52 rfl (ezS_run (by omega) v2 h9 _ h_r10) ?_
        refine am_Rn.run am_h129 3 (F' := (86, [(3, .int r10.1), (0, .ref 0), (1, .int v1), (2, .int v2)], [.int 1000000, .int r10.1])) (S' := (am_sh, r10.2, hm, g)) (by rcases hk_r5 with rfl | rfl | rfl | rfl | rfl <;> rfl) ?_
        refine am_Rn.ite am_h129 (c := r10.1 < 1000000) (t := 89) (f := 106) (lv := [(3, .int r10.1), (0, .ref 0), (1, .int v1), (2, .int v2)]) (st := []) (S' := (am_sh, r10.2, hm, g)) (by rcases hk_r5 with rfl | rfl | rfl | rfl | rfl <;> rfl) hp (fun hc11 hp => ?_) (fun hc11 hp => ?_)
        · refine am_Rn.run am_h129 1 (F' := (90, [(3, .int r10.1), (0, .ref 0), (1, .int v1), (2, .int v2)], [.int v2])) (S' := (am_sh, r10.2, hm, g)) (by rcases hk_r5 with rfl | rfl | rfl | rfl | rfl <;> rfl) ?_
          refine am_Rn.ite am_h129 (c := 0 < v2) (t := 93) (f := 106) (lv := [(3, .int r10.1), (0, .ref 0), (1, .int v1), (2, .int v2)]) (st := []) (S' := (am_sh, r10.2, hm, g)) (by rcases hk_r5 with rfl | rfl | rfl | rfl | rfl <;> rfl) hp (fun hc12 hp => ?_) (fun hc12 hp => ?_)
          · refine am_Rn.run am_h129 5 (F' := (102, [(3, .int r10.1), (0, .ref 0), (1, .int v1), (2, .int v2)], [.int v2, .ref 1, .ref 65])) (S' := (am_sh, r10.2, hm, g)) (by rcases hk_r5 with rfl | rfl | rfl | rfl | rfl <;> rfl) ?_
            obtain ⟨r13, h_r13, hp⟩ := am_bind hp
            refine am_Rn.call am_h129 (mj := 68) (As := [.ref 65, .ref 1, .int v2]) (F' := (105, [(3, .int r10.1), (0, .ref 0), (1, .int v1), (2, .int v2)], [])) (M' := am_m68) (r := some (.int r13)) (S1 := (am_sh, r10.2, hm, g)) (by rcases hk_r5 with rfl | rfl | rfl | rfl | rfl <;> rfl) am_h68 rfl (ezS_fewestBehind (by omega) v2 r10.2 _ h_r13) ?_
            refine am_Rn.run am_h129 1 (F' := (106, [(3, .int r13), (0, .ref 0), (1, .int v1), (2, .int v2)], [])) (S' := (am_sh, r10.2, hm, g)) (by rcases hk_r5 with rfl | rfl | rfl | rfl | rfl <;> rfl) ?_
            refine am_Rn.sub [0] rfl rfl ?_
            exact ezH_ill_J106 hd R r13 r10.2 hp
          · refine am_Rn.sub [0] rfl rfl ?_
            exact ezH_ill_J106 hd R r10.1 r10.2 hp
        · refine am_Rn.sub [0] rfl rfl ?_
          exact ezH_ill_J106 hd R r10.1 r10.2 hp
    · refine am_Rn.run am_h129 1 (F' := (24, [(0, .ref 0), (1, .int v1), (2, .int v2)], [.int (-1)])) (S' := (am_sh, h, hm, g)) rfl ?_
      cases hp
      exact am_Rn.ret am_h129 rfl
/-- SixHands.bound(I)I [0] -/
def zH_bound_L43 (k29 : Int32 → Int32 → Int32 → (Nat → Nat → Int32) → Option (Int32 × (Nat → Nat → Int32))) : Nat → Int32 → Int32 → Int32 → Int32 → (Nat → Nat → Int32) → Option (Int32 × (Nat → Nat → Int32))
  | 0, _, _, _, _, _ => none
  | n + 1, v1, v2, v3, v4, h => if v4 < (h 1 4) then ((zL_fitting v3 v4 h).bind fun r7 => (zL_fitting (v3 - 1) v4 h).bind fun r8 => am_b (r7 &&& r8) fun x9 => (zG_staysOn v3 v4 h).bind fun r10 => if r10 = 0 then (zH_bound_L43 k29 n v1 v2 v3 (v4 + 1) h) else (am_ix 6 v4 ((zH_holdsOf (h 4 (v4.toNatClampNeg)) v1).bind fun r13 => if (x9 &&& r13) = 0 then (zH_bound_L43 k29 n v1 (v2 + 1) v3 (v4 + 1) h) else (zH_bound_L43 k29 n v1 v2 v3 (v4 + 1) h)))) else (k29 v1 v2 (v3 + 1) h)
set_option maxRecDepth 20000 in
theorem ezH_bound_L43 {d : Nat} (hd : 6 ≤ d) (R : Int32 × (Nat → Nat → Int32)) (k29 : Int32 → Int32 → Int32 → (Nat → Nat → Int32) → Option (Int32 × (Nat → Nat → Int32))) (hk29 : ∀ (v1 : Int32) (v2 : Int32) (v3 : Int32) (h : (Nat → Nat → Int32)), k29 v1 v2 v3 h = some R → am_Rn 83 Xs am_P d 130 (29, [(0, .ref 0), (1, .int v1), (2, .int v2), (3, .int v3)], []) (am_sh, h, hm, g) (some (.int R.1), (am_sh, R.2, hm, g))) : ∀ (n : Nat) (v1 : Int32) (v2 : Int32) (v3 : Int32) (v4 : Int32) (h : (Nat → Nat → Int32)), zH_bound_L43 k29 n v1 v2 v3 v4 h = some R → am_Rn 83 Xs am_P d 130 (43, [(0, .ref 0), (1, .int v1), (2, .int v2), (3, .int v3), (4, .int v4)], []) (am_sh, h, hm, g) (some (.int R.1), (am_sh, R.2, hm, g))
  | 0, _, _, _, _, _, hp => by cases hp
  | n + 1, v1, v2, v3, v4, h, hp => by
    obtain ⟨d, rfl⟩ : ∃ k, d = k + 1 := ⟨d - 1, by omega⟩
    unfold zH_bound_L43 at hp
    refine am_Rn.run am_h130 4 (F' := (52, [(0, .ref 0), (1, .int v1), (2, .int v2), (3, .int v3), (4, .int v4)], [.int (h 1 4), .int v4])) (S' := (am_sh, h, hm, g)) rfl ?_
    refine am_Rn.ite am_h130 (c := v4 < (h 1 4)) (t := 55) (f := 122) (lv := [(0, .ref 0), (1, .int v1), (2, .int v2), (3, .int v3), (4, .int v4)]) (st := []) (S' := (am_sh, h, hm, g)) rfl hp (fun hc6 hp => ?_) (fun hc6 hp => ?_)
    · refine am_Rn.run am_h130 4 (F' := (62, [(0, .ref 0), (1, .int v1), (2, .int v2), (3, .int v3), (4, .int v4)], [.int v4, .int v3, .ref 59])) (S' := (am_sh, h, hm, g)) rfl ?_
      obtain ⟨r7, h_r7, hp⟩ := am_bind hp
      refine am_Rn.call am_h130 (mj := 21) (As := [.ref 59, .int v3, .int v4]) (F' := (65, [(0, .ref 0), (1, .int v1), (2, .int v2), (3, .int v3), (4, .int v4)], [])) (M' := am_m21) (r := some (.int r7)) (S1 := (am_sh, h, hm, g)) rfl am_h21 rfl (ezL_fitting (by omega) v3 v4 h _ h_r7) ?_
      refine am_Rn.run am_h130 6 (F' := (74, [(0, .ref 0), (1, .int v1), (2, .int v2), (3, .int v3), (4, .int v4)], [.int v4, .int (v3 - 1), .ref 59, .int r7])) (S' := (am_sh, h, hm, g)) rfl ?_
      obtain ⟨r8, h_r8, hp⟩ := am_bind hp
      refine am_Rn.call am_h130 (mj := 21) (As := [.ref 59, .int (v3 - 1), .int v4]) (F' := (77, [(0, .ref 0), (1, .int v1), (2, .int v2), (3, .int v3), (4, .int v4)], [.int r7])) (M' := am_m21) (r := some (.int r8)) (S1 := (am_sh, h, hm, g)) rfl am_h21 rfl (ezL_fitting (by omega) (v3 - 1) v4 h _ h_r8) ?_
      obtain ⟨x9, h_x9, hp⟩ := am_b_e hp
      refine am_Rn.run am_h130 6 (F' := (87, [(5, .int x9), (0, .ref 0), (1, .int v1), (2, .int v2), (3, .int v3), (4, .int v4)], [.int v4, .int v3, .ref 1])) (S' := (am_sh, h, hm, g)) (by subst h_x9; rfl) ?_
      obtain ⟨r10, h_r10, hp⟩ := am_bind hp
      refine am_Rn.call am_h130 (mj := 86) (As := [.ref 1, .int v3, .int v4]) (F' := (90, [(5, .int x9), (0, .ref 0), (1, .int v1), (2, .int v2), (3, .int v3), (4, .int v4)], [])) (M' := am_m86) (r := some (.int r10)) (S1 := (am_sh, h, hm, g)) rfl am_h86 rfl (ezG_staysOn (by omega) v3 v4 h _ h_r10) ?_
      refine am_Rn.ite am_h130 (c := r10 = 0) (t := 116) (f := 93) (lv := [(5, .int x9), (0, .ref 0), (1, .int v1), (2, .int v2), (3, .int v3), (4, .int v4)]) (st := []) (S' := (am_sh, h, hm, g)) rfl hp (fun hc11 hp => ?_) (fun hc11 hp => ?_)
      · refine am_Rn.run am_h130 2 (F' := (43, [(4, .int (v4 + 1)), (5, .int x9), (0, .ref 0), (1, .int v1), (2, .int v2), (3, .int v3)], [])) (S' := (am_sh, h, hm, g)) rfl ?_
        refine am_Rn.sub [2, 3, 4, 5, 0] rfl rfl ?_
        exact ezH_bound_L43 hd R k29 hk29 n v1 v2 v3 (v4 + 1) h hp
      · refine am_Rn.run am_h130 5 (F' := (104, [(5, .int x9), (0, .ref 0), (1, .int v1), (2, .int v2), (3, .int v3), (4, .int v4)], [.int v4, .ref 4, .int x9])) (S' := (am_sh, h, hm, g)) rfl ?_
        obtain ⟨hn12, hp⟩ := am_ix_e hp
        refine am_Rn.stepG am_h130 (c := v4 < 0 ∨ 6 ≤ v4.toNatClampNeg) (F' := (105, [(5, .int x9), (0, .ref 0), (1, .int v1), (2, .int v2), (3, .int v3), (4, .int v4)], [.int (h 4 (v4.toNatClampNeg)), .int x9])) (S' := (am_sh, h, hm, g)) rfl hn12 ?_
        refine am_Rn.run am_h130 1 (F' := (106, [(5, .int x9), (0, .ref 0), (1, .int v1), (2, .int v2), (3, .int v3), (4, .int v4)], [.int v1, .int (h 4 (v4.toNatClampNeg)), .int x9])) (S' := (am_sh, h, hm, g)) rfl ?_
        obtain ⟨r13, h_r13, hp⟩ := am_bind hp
        refine am_Rn.call am_h130 (mj := 144) (As := [.int (h 4 (v4.toNatClampNeg)), .int v1]) (F' := (109, [(5, .int x9), (0, .ref 0), (1, .int v1), (2, .int v2), (3, .int v3), (4, .int v4)], [.int x9])) (M' := am_m144) (r := some (.int r13)) (S1 := (am_sh, h, hm, g)) rfl am_h144 rfl (ezH_holdsOf (by omega) (h 4 (v4.toNatClampNeg)) v1 _ h_r13) ?_
        refine am_Rn.run am_h130 1 (F' := (110, [(5, .int x9), (0, .ref 0), (1, .int v1), (2, .int v2), (3, .int v3), (4, .int v4)], [.int (x9 &&& r13)])) (S' := (am_sh, h, hm, g)) rfl ?_
        refine am_Rn.ite am_h130 (c := (x9 &&& r13) = 0) (t := 113) (f := 116) (lv := [(5, .int x9), (0, .ref 0), (1, .int v1), (2, .int v2), (3, .int v3), (4, .int v4)]) (st := []) (S' := (am_sh, h, hm, g)) rfl hp (fun hc14 hp => ?_) (fun hc14 hp => ?_)
        · refine am_Rn.run am_h130 3 (F' := (43, [(4, .int (v4 + 1)), (2, .int (v2 + 1)), (5, .int x9), (0, .ref 0), (1, .int v1), (3, .int v3)], [])) (S' := (am_sh, h, hm, g)) rfl ?_
          refine am_Rn.sub [3, 4, 1, 5, 0] rfl rfl ?_
          exact ezH_bound_L43 hd R k29 hk29 n v1 (v2 + 1) v3 (v4 + 1) h hp
        · refine am_Rn.run am_h130 2 (F' := (43, [(4, .int (v4 + 1)), (5, .int x9), (0, .ref 0), (1, .int v1), (2, .int v2), (3, .int v3)], [])) (S' := (am_sh, h, hm, g)) rfl ?_
          refine am_Rn.sub [2, 3, 4, 5, 0] rfl rfl ?_
          exact ezH_bound_L43 hd R k29 hk29 n v1 v2 v3 (v4 + 1) h hp
    · refine am_Rn.run am_h130 2 (F' := (29, [(3, .int (v3 + 1)), (0, .ref 0), (1, .int v1), (2, .int v2), (4, .int v4)], [])) (S' := (am_sh, h, hm, g)) rfl ?_
      refine am_Rn.sub [1, 2, 3, 0] rfl rfl ?_
      exact hk29 v1 v2 (v3 + 1) h hp
def zH_bound_L29 : Nat → Int32 → Int32 → Int32 → (Nat → Nat → Int32) → Option (Int32 × (Nat → Nat → Int32))
  | 0, _, _, _, _ => none
  | n + 1, v1, v2, v3, h => if v3 < (h 1 13) then (zH_bound_L43 (fun v1 v2 v3 h => zH_bound_L29 n v1 v2 v3 h) am_N v1 v2 v3 0 h) else (some ((v2, h)))
set_option maxRecDepth 20000 in
theorem ezH_bound_L29 {d : Nat} (hd : 6 ≤ d) (R : Int32 × (Nat → Nat → Int32)) : ∀ (n : Nat) (v1 : Int32) (v2 : Int32) (v3 : Int32) (h : (Nat → Nat → Int32)), zH_bound_L29 n v1 v2 v3 h = some R → am_Rn 83 Xs am_P d 130 (29, [(0, .ref 0), (1, .int v1), (2, .int v2), (3, .int v3)], []) (am_sh, h, hm, g) (some (.int R.1), (am_sh, R.2, hm, g))
  | 0, _, _, _, _, hp => by cases hp
  | n + 1, v1, v2, v3, h, hp => by
    obtain ⟨d, rfl⟩ : ∃ k, d = k + 1 := ⟨d - 1, by omega⟩
    unfold zH_bound_L29 at hp
    refine am_Rn.run am_h130 4 (F' := (37, [(0, .ref 0), (1, .int v1), (2, .int v2), (3, .int v3)], [.int (h 1 13), .int v3])) (S' := (am_sh, h, hm, g)) rfl ?_
    refine am_Rn.ite am_h130 (c := v3 < (h 1 13)) (t := 40) (f := 128) (lv := [(0, .ref 0), (1, .int v1), (2, .int v2), (3, .int v3)]) (st := []) (S' := (am_sh, h, hm, g)) rfl hp (fun hc5 hp => ?_) (fun hc5 hp => ?_)
    · refine am_Rn.run am_h130 2 (F' := (43, [(4, .int 0), (0, .ref 0), (1, .int v1), (2, .int v2), (3, .int v3)], [])) (S' := (am_sh, h, hm, g)) rfl ?_
      refine am_Rn.sub [1, 2, 3, 4, 0] rfl rfl ?_
      exact ezH_bound_L43 hd R (fun v1 v2 v3 h => zH_bound_L29 n v1 v2 v3 h) (fun v1 v2 v3 h hp => ezH_bound_L29 hd R n v1 v2 v3 h hp) am_N v1 v2 v3 0 h hp
    · refine am_Rn.run am_h130 1 (F' := (129, [(0, .ref 0), (1, .int v1), (2, .int v2), (3, .int v3)], [.int v2])) (S' := (am_sh, h, hm, g)) rfl ?_
      cases hp
      exact am_Rn.ret am_h130 rfl
def zH_bound (v1 : Int32) (h : (Nat → Nat → Int32)) : Option (Int32 × (Nat → Nat → Int32)) := am_b (zH_isSet v1 h) fun r1 => if r1 = 0 then (some (((-1), h))) else ((zH_ruling h).bind fun r3 => (zL_learn r3 h).bind fun r4 => zH_bound_L29 am_N v1 0 1 r4)
set_option maxRecDepth 20000 in
theorem ezH_bound {d : Nat} (hd : 6 ≤ d) (v1 : Int32) (h : (Nat → Nat → Int32)) (R : Int32 × (Nat → Nat → Int32)) (hp : zH_bound v1 h = some R) : am_Ev 83 Xs am_P d 130 [.ref 0, .int v1] (am_sh, h, hm, g) (some (.int R.1), (am_sh, R.2, hm, g)) := by
  obtain ⟨d, rfl⟩ : ∃ k, d = k + 1 := ⟨d - 1, by omega⟩
  unfold zH_bound at hp
  show am_Rn 83 Xs am_P _ 130 (0, [(0, .ref 0), (1, .int v1)], []) _ _
  refine am_Rn.run am_h130 2 (F' := (2, [(0, .ref 0), (1, .int v1)], [.int v1, .ref 0])) (S' := (am_sh, h, hm, g)) rfl ?_
  obtain ⟨r1, h_r1, hp⟩ := am_b_e hp
  refine am_Rn.call am_h130 (mj := 138) (As := [.ref 0, .int v1]) (F' := (5, [(0, .ref 0), (1, .int v1)], [])) (M' := am_m138) (r := some (.int r1)) (S1 := (am_sh, h, hm, g)) rfl am_h138 rfl (by subst h_r1; exact (ezH_isSet (by omega) v1 h)) ?_
  refine am_Rn.ite am_h130 (c := r1 = 0) (t := 8) (f := 10) (lv := [(0, .ref 0), (1, .int v1)]) (st := []) (S' := (am_sh, h, hm, g)) rfl hp (fun hc2 hp => ?_) (fun hc2 hp => ?_)
  · refine am_Rn.run am_h130 1 (F' := (9, [(0, .ref 0), (1, .int v1)], [.int (-1)])) (S' := (am_sh, h, hm, g)) rfl ?_
    cases hp
    exact am_Rn.ret am_h130 rfl
  · refine am_Rn.run am_h130 5 (F' := (19, [(0, .ref 0), (1, .int v1)], [.ref 0, .ref 1, .ref 59])) (S' := (am_sh, h, hm, g)) rfl ?_
    obtain ⟨r3, h_r3, hp⟩ := am_bind hp
    refine am_Rn.call am_h130 (mj := 140) (As := [.ref 0]) (F' := (22, [(0, .ref 0), (1, .int v1)], [.ref 1, .ref 59])) (M' := am_m140) (r := some (.ref r3)) (S1 := (am_sh, h, hm, g)) rfl am_h140 rfl (ezH_ruling (by omega) h _ h_r3) ?_
    have hk_r3 := zH_ruling_k h_r3
    obtain ⟨r4, h_r4, hp⟩ := am_bind hp
    refine am_Rn.call am_h130 (mj := 23) (As := [.ref 59, .ref 1, .ref r3]) (F' := (25, [(0, .ref 0), (1, .int v1)], [])) (M' := am_m23) (r := none) (S1 := (am_sh, r4, hm, g)) (by rcases hk_r3 with rfl | rfl | rfl | rfl | rfl <;> rfl) am_h23 rfl (ezL_learn (by omega) r3 h _ hk_r3 h_r4) ?_
    refine am_Rn.run am_h130 4 (F' := (29, [(3, .int 1), (2, .int 0), (0, .ref 0), (1, .int v1)], [])) (S' := (am_sh, r4, hm, g)) (by rcases hk_r3 with rfl | rfl | rfl | rfl | rfl <;> rfl) ?_
    refine am_Rn.sub [2, 3, 1, 0] rfl rfl ?_
    exact ezH_bound_L29 hd R am_N v1 0 1 r4 hp
/-- SixHands$Laws.isShown(LSixHands$Stage;LSixHands$Text;III)Z [59, 1, 't'] -/
def zL_isShown_L28 : Nat → Nat → Int32 → Int32 → (Nat → Nat → Int32) → Option (Int32 × (Nat → Nat → Int32))
  | 0, _, _, _, _ => none
  | n + 1, v2, v3, v6, h => if v6 < (h 1 4) then (am_ix 144 ((v3 * 6) + v6) (if (h 8 (((v3 * 6) + v6).toNatClampNeg)) = (h 60 14) then (am_b (va_up h 60 (upd (h 60) 20 ((h 60 20) + 1))) fun h7 => zL_isShown_L28 n v2 v3 (v6 + 1) h7) else (zL_isShown_L28 n v2 v3 (v6 + 1) h))) else ((zL_isSo v2 5 h).bind fun r8 => some ((r8.1 &&& 1, r8.2)))
set_option maxRecDepth 20000 in
theorem ezL_isShown_L28 {d : Nat} (hd : 4 ≤ d) (R : Int32 × (Nat → Nat → Int32)) : ∀ (n : Nat) (v2 : Nat) (v3 : Int32) (v6 : Int32) (h : (Nat → Nat → Int32)), zK v2 → zL_isShown_L28 n v2 v3 v6 h = some R → am_Rn 83 Xs am_P d 27 (28, [(0, .ref 59), (1, .ref 1), (2, .ref v2), (3, .int v3), (6, .int v6)], []) (am_sh, h, hm, g) (some (.int R.1), (am_sh, R.2, hm, g))
  | 0, _, _, _, _, _, hp => by cases hp
  | n + 1, v2, v3, v6, h, hk_v2, hp => by
    obtain ⟨d, rfl⟩ : ∃ k, d = k + 1 := ⟨d - 1, by omega⟩
    unfold zL_isShown_L28 at hp
    refine am_Rn.run am_h27 3 (F' := (34, [(0, .ref 59), (1, .ref 1), (2, .ref v2), (3, .int v3), (6, .int v6)], [.int (h 1 4), .int v6])) (S' := (am_sh, h, hm, g)) (by rcases hk_v2 with rfl | rfl | rfl | rfl | rfl <;> rfl) ?_
    refine am_Rn.ite am_h27 (c := v6 < (h 1 4)) (t := 37) (f := 76) (lv := [(0, .ref 59), (1, .ref 1), (2, .ref v2), (3, .int v3), (6, .int v6)]) (st := []) (S' := (am_sh, h, hm, g)) (by rcases hk_v2 with rfl | rfl | rfl | rfl | rfl <;> rfl) hp (fun hc4 hp => ?_) (fun hc4 hp => ?_)
    · refine am_Rn.run am_h27 7 (F' := (48, [(0, .ref 59), (1, .ref 1), (2, .ref v2), (3, .int v3), (6, .int v6)], [.int ((v3 * 6) + v6), .ref 8])) (S' := (am_sh, h, hm, g)) (by rcases hk_v2 with rfl | rfl | rfl | rfl | rfl <;> rfl) ?_
      obtain ⟨hn5, hp⟩ := am_ix_e hp
      refine am_Rn.stepG am_h27 (c := ((v3 * 6) + v6) < 0 ∨ 144 ≤ ((v3 * 6) + v6).toNatClampNeg) (F' := (49, [(0, .ref 59), (1, .ref 1), (2, .ref v2), (3, .int v3), (6, .int v6)], [.int (h 8 (((v3 * 6) + v6).toNatClampNeg))])) (S' := (am_sh, h, hm, g)) (by rcases hk_v2 with rfl | rfl | rfl | rfl | rfl <;> rfl) hn5 ?_
      refine am_Rn.run am_h27 4 (F' := (56, [(0, .ref 59), (1, .ref 1), (2, .ref v2), (3, .int v3), (6, .int v6)], [.int (h 60 14), .int (h 8 (((v3 * 6) + v6).toNatClampNeg))])) (S' := (am_sh, h, hm, g)) (by rcases hk_v2 with rfl | rfl | rfl | rfl | rfl <;> rfl) ?_
      refine am_Rn.ite am_h27 (c := (h 8 (((v3 * 6) + v6).toNatClampNeg)) = (h 60 14)) (t := 59) (f := 70) (lv := [(0, .ref 59), (1, .ref 1), (2, .ref v2), (3, .int v3), (6, .int v6)]) (st := []) (S' := (am_sh, h, hm, g)) (by rcases hk_v2 with rfl | rfl | rfl | rfl | rfl <;> rfl) hp (fun hc6 hp => ?_) (fun hc6 hp => ?_)
      · obtain ⟨h7, h_h7, hp⟩ := am_b_e hp
        refine am_Rn.run am_h27 10 (F' := (28, [(6, .int (v6 + 1)), (0, .ref 59), (1, .ref 1), (2, .ref v2), (3, .int v3)], [])) (S' := (am_sh, h7, hm, g)) (by subst h_h7; rcases hk_v2 with rfl | rfl | rfl | rfl | rfl <;> rfl) ?_
        refine am_Rn.sub [1, 2, 3, 4, 0] rfl rfl ?_
        exact ezL_isShown_L28 hd R n v2 v3 (v6 + 1) h7 hk_v2 hp
      · refine am_Rn.run am_h27 2 (F' := (28, [(6, .int (v6 + 1)), (0, .ref 59), (1, .ref 1), (2, .ref v2), (3, .int v3)], [])) (S' := (am_sh, h, hm, g)) (by rcases hk_v2 with rfl | rfl | rfl | rfl | rfl <;> rfl) ?_
        refine am_Rn.sub [1, 2, 3, 4, 0] rfl rfl ?_
        exact ezL_isShown_L28 hd R n v2 v3 (v6 + 1) h hk_v2 hp
    · refine am_Rn.run am_h27 3 (F' := (79, [(0, .ref 59), (1, .ref 1), (2, .ref v2), (3, .int v3), (6, .int v6)], [.int 5, .ref v2, .ref 59])) (S' := (am_sh, h, hm, g)) (by rcases hk_v2 with rfl | rfl | rfl | rfl | rfl <;> rfl) ?_
      obtain ⟨r8, h_r8, hp⟩ := am_bind hp
      refine am_Rn.call am_h27 (mj := 28) (As := [.ref 59, .ref v2, .int 5]) (F' := (82, [(0, .ref 59), (1, .ref 1), (2, .ref v2), (3, .int v3), (6, .int v6)], [])) (M' := am_m28) (r := some (.int r8.1)) (S1 := (am_sh, r8.2, hm, g)) (by rcases hk_v2 with rfl | rfl | rfl | rfl | rfl <;> rfl) am_h28 rfl (ezL_isSo (by omega) v2 5 h _ hk_v2 h_r8) ?_
      cases hp
      exact am_Rn.ret am_h27 (by rcases hk_v2 with rfl | rfl | rfl | rfl | rfl <;> rfl)
def zL_isShown (v2 : Nat) (v3 : Int32) (v4 : Int32) (v5 : Int32) (h : (Nat → Nat → Int32)) : Option (Int32 × (Nat → Nat → Int32)) := (zL_nameCase v3 v4 h).bind fun r1 => am_b (va_up r1 60 (upd (r1 60) 19 v5)) fun h2 => am_b (va_up h2 60 (upd (h2 60) 20 0)) fun h3 => zL_isShown_L28 am_N v2 v3 0 h3
set_option maxRecDepth 20000 in
theorem ezL_isShown {d : Nat} (hd : 4 ≤ d) (v2 : Nat) (v3 : Int32) (v4 : Int32) (v5 : Int32) (h : (Nat → Nat → Int32)) (R : Int32 × (Nat → Nat → Int32)) (hk_v2 : zK v2) (hp : zL_isShown v2 v3 v4 v5 h = some R) : am_Ev 83 Xs am_P d 27 [.ref 59, .ref 1, .ref v2, .int v3, .int v4, .int v5] (am_sh, h, hm, g) (some (.int R.1), (am_sh, R.2, hm, g)) := by
  obtain ⟨d, rfl⟩ : ∃ k, d = k + 1 := ⟨d - 1, by omega⟩
  unfold zL_isShown at hp
  show am_Rn 83 Xs am_P _ 27 (0, [(0, .ref 59), (1, .ref 1), (2, .ref v2), (3, .int v3), (4, .int v4), (5, .int v5)], []) _ _
  refine am_Rn.run am_h27 4 (F' := (5, [(0, .ref 59), (1, .ref 1), (2, .ref v2), (3, .int v3), (4, .int v4), (5, .int v5)], [.int v4, .int v3, .ref 1, .ref 59])) (S' := (am_sh, h, hm, g)) (by rcases hk_v2 with rfl | rfl | rfl | rfl | rfl <;> rfl) ?_
  obtain ⟨r1, h_r1, hp⟩ := am_bind hp
  refine am_Rn.call am_h27 (mj := 24) (As := [.ref 59, .ref 1, .int v3, .int v4]) (F' := (8, [(0, .ref 59), (1, .ref 1), (2, .ref v2), (3, .int v3), (4, .int v4), (5, .int v5)], [])) (M' := am_m24) (r := none) (S1 := (am_sh, r1, hm, g)) (by rcases hk_v2 with rfl | rfl | rfl | rfl | rfl <;> rfl) am_h24 rfl (ezL_nameCase (by omega) v3 v4 h _ h_r1) ?_
  obtain ⟨h2, h_h2, hp⟩ := am_b_e hp
  obtain ⟨h3, h_h3, hp⟩ := am_b_e hp
  refine am_Rn.run am_h27 12 (F' := (28, [(6, .int 0), (0, .ref 59), (1, .ref 1), (2, .ref v2), (3, .int v3), (4, .int v4), (5, .int v5)], [])) (S' := (am_sh, h3, hm, g)) (by subst h_h2; subst h_h3; rcases hk_v2 with rfl | rfl | rfl | rfl | rfl <;> rfl) ?_
  refine am_Rn.sub [1, 2, 3, 4, 0] rfl rfl ?_
  exact ezL_isShown_L28 hd R am_N v2 v3 0 h3 hk_v2 hp
/-- SixHands.sees(II)I [0] -/
def zH_sees_L30 : Nat → Int32 → Int32 → Int32 → Int32 → (Nat → Nat → Int32) → Option (Int32 × (Nat → Nat → Int32))
  | 0, _, _, _, _, _ => none
  | n + 1, v1, v2, v3, v4, h => if v4 < (h 1 4) then ((zG_isOn v1 v4 h).bind fun r6 => if r6 = 0 then (zH_sees_L30 n v1 v2 v3 (v4 + 1) h) else ((zH_ruling h).bind fun r8 => (zL_isShown r8 v1 v4 v2 h).bind fun r9 => if r9.1 = 0 then (zH_sees_L30 n v1 v2 v3 (v4 + 1) r9.2) else (am_b (v3 ||| ((1 : Int32) <<< (v4 &&& 31))) fun x11 => zH_sees_L30 n v1 v2 x11 (v4 + 1) r9.2))) else (some ((v3, h)))
set_option maxRecDepth 20000 in
theorem ezH_sees_L30 {d : Nat} (hd : 5 ≤ d) (R : Int32 × (Nat → Nat → Int32)) : ∀ (n : Nat) (v1 : Int32) (v2 : Int32) (v3 : Int32) (v4 : Int32) (h : (Nat → Nat → Int32)), zH_sees_L30 n v1 v2 v3 v4 h = some R → am_Rn 83 Xs am_P d 131 (30, [(0, .ref 0), (1, .int v1), (2, .int v2), (3, .int v3), (4, .int v4)], []) (am_sh, h, hm, g) (some (.int R.1), (am_sh, R.2, hm, g))
  | 0, _, _, _, _, _, hp => by cases hp
  | n + 1, v1, v2, v3, v4, h, hp => by
    obtain ⟨d, rfl⟩ : ∃ k, d = k + 1 := ⟨d - 1, by omega⟩
    unfold zH_sees_L30 at hp
    refine am_Rn.run am_h131 4 (F' := (39, [(0, .ref 0), (1, .int v1), (2, .int v2), (3, .int v3), (4, .int v4)], [.int (h 1 4), .int v4])) (S' := (am_sh, h, hm, g)) rfl ?_
    refine am_Rn.ite am_h131 (c := v4 < (h 1 4)) (t := 42) (f := 90) (lv := [(0, .ref 0), (1, .int v1), (2, .int v2), (3, .int v3), (4, .int v4)]) (st := []) (S' := (am_sh, h, hm, g)) rfl hp (fun hc5 hp => ?_) (fun hc5 hp => ?_)
    · refine am_Rn.run am_h131 4 (F' := (49, [(0, .ref 0), (1, .int v1), (2, .int v2), (3, .int v3), (4, .int v4)], [.int v4, .int v1, .ref 1])) (S' := (am_sh, h, hm, g)) rfl ?_
      obtain ⟨r6, h_r6, hp⟩ := am_bind hp
      refine am_Rn.call am_h131 (mj := 85) (As := [.ref 1, .int v1, .int v4]) (F' := (52, [(0, .ref 0), (1, .int v1), (2, .int v2), (3, .int v3), (4, .int v4)], [])) (M' := am_m85) (r := some (.int r6)) (S1 := (am_sh, h, hm, g)) rfl am_h85 rfl (ezG_isOn (by omega) v1 v4 h _ h_r6) ?_
      refine am_Rn.ite am_h131 (c := r6 = 0) (t := 84) (f := 55) (lv := [(0, .ref 0), (1, .int v1), (2, .int v2), (3, .int v3), (4, .int v4)]) (st := []) (S' := (am_sh, h, hm, g)) rfl hp (fun hc7 hp => ?_) (fun hc7 hp => ?_)
      · refine am_Rn.run am_h131 2 (F' := (30, [(4, .int (v4 + 1)), (0, .ref 0), (1, .int v1), (2, .int v2), (3, .int v3)], [])) (S' := (am_sh, h, hm, g)) rfl ?_
        refine am_Rn.sub [1, 2, 3, 4, 0] rfl rfl ?_
        exact ezH_sees_L30 hd R n v1 v2 v3 (v4 + 1) h hp
      · refine am_Rn.run am_h131 5 (F' := (64, [(0, .ref 0), (1, .int v1), (2, .int v2), (3, .int v3), (4, .int v4)], [.ref 0, .ref 1, .ref 59])) (S' := (am_sh, h, hm, g)) rfl ?_
        obtain ⟨r8, h_r8, hp⟩ := am_bind hp
        refine am_Rn.call am_h131 (mj := 140) (As := [.ref 0]) (F' := (67, [(0, .ref 0), (1, .int v1), (2, .int v2), (3, .int v3), (4, .int v4)], [.ref 1, .ref 59])) (M' := am_m140) (r := some (.ref r8)) (S1 := (am_sh, h, hm, g)) rfl am_h140 rfl (ezH_ruling (by omega) h _ h_r8) ?_
        have hk_r8 := zH_ruling_k h_r8
        refine am_Rn.run am_h131 3 (F' := (71, [(0, .ref 0), (1, .int v1), (2, .int v2), (3, .int v3), (4, .int v4)], [.int v2, .int v4, .int v1, .ref r8, .ref 1, .ref 59])) (S' := (am_sh, h, hm, g)) (by rcases hk_r8 with rfl | rfl | rfl | rfl | rfl <;> rfl) ?_
        obtain ⟨r9, h_r9, hp⟩ := am_bind hp
        refine am_Rn.call am_h131 (mj := 27) (As := [.ref 59, .ref 1, .ref r8, .int v1, .int v4, .int v2]) (F' := (74, [(0, .ref 0), (1, .int v1), (2, .int v2), (3, .int v3), (4, .int v4)], [])) (M' := am_m27) (r := some (.int r9.1)) (S1 := (am_sh, r9.2, hm, g)) (by rcases hk_r8 with rfl | rfl | rfl | rfl | rfl <;> rfl) am_h27 rfl (ezL_isShown (by omega) r8 v1 v4 v2 h _ hk_r8 h_r9) ?_
        refine am_Rn.ite am_h131 (c := r9.1 = 0) (t := 84) (f := 77) (lv := [(0, .ref 0), (1, .int v1), (2, .int v2), (3, .int v3), (4, .int v4)]) (st := []) (S' := (am_sh, r9.2, hm, g)) (by rcases hk_r8 with rfl | rfl | rfl | rfl | rfl <;> rfl) hp (fun hc10 hp => ?_) (fun hc10 hp => ?_)
        · refine am_Rn.run am_h131 2 (F' := (30, [(4, .int (v4 + 1)), (0, .ref 0), (1, .int v1), (2, .int v2), (3, .int v3)], [])) (S' := (am_sh, r9.2, hm, g)) (by rcases hk_r8 with rfl | rfl | rfl | rfl | rfl <;> rfl) ?_
          refine am_Rn.sub [1, 2, 3, 4, 0] rfl rfl ?_
          exact ezH_sees_L30 hd R n v1 v2 v3 (v4 + 1) r9.2 hp
        · obtain ⟨x11, h_x11, hp⟩ := am_b_e hp
          refine am_Rn.run am_h131 8 (F' := (30, [(4, .int (v4 + 1)), (3, .int x11), (0, .ref 0), (1, .int v1), (2, .int v2)], [])) (S' := (am_sh, r9.2, hm, g)) (by subst h_x11; rcases hk_r8 with rfl | rfl | rfl | rfl | rfl <;> rfl) ?_
          refine am_Rn.sub [2, 3, 4, 1, 0] rfl rfl ?_
          exact ezH_sees_L30 hd R n v1 v2 x11 (v4 + 1) r9.2 hp
    · refine am_Rn.run am_h131 1 (F' := (91, [(0, .ref 0), (1, .int v1), (2, .int v2), (3, .int v3), (4, .int v4)], [.int v3])) (S' := (am_sh, h, hm, g)) rfl ?_
      cases hp
      exact am_Rn.ret am_h131 rfl
def zH_sees (v1 : Int32) (v2 : Int32) (h : (Nat → Nat → Int32)) : Option (Int32 × (Nat → Nat → Int32)) := am_b (zH_isBeat v1 h) fun r1 => if r1 = 0 then (some (((-1), h))) else (if v2 < 0 then (some (((-1), h))) else (if v2 < (h 1 0) then (zH_sees_L30 am_N v1 v2 0 0 h) else (some (((-1), h)))))
set_option maxRecDepth 20000 in
theorem ezH_sees {d : Nat} (hd : 5 ≤ d) (v1 : Int32) (v2 : Int32) (h : (Nat → Nat → Int32)) (R : Int32 × (Nat → Nat → Int32)) (hp : zH_sees v1 v2 h = some R) : am_Ev 83 Xs am_P d 131 [.ref 0, .int v1, .int v2] (am_sh, h, hm, g) (some (.int R.1), (am_sh, R.2, hm, g)) := by
  obtain ⟨d, rfl⟩ : ∃ k, d = k + 1 := ⟨d - 1, by omega⟩
  unfold zH_sees at hp
  show am_Rn 83 Xs am_P _ 131 (0, [(0, .ref 0), (1, .int v1), (2, .int v2)], []) _ _
  refine am_Rn.run am_h131 2 (F' := (2, [(0, .ref 0), (1, .int v1), (2, .int v2)], [.int v1, .ref 0])) (S' := (am_sh, h, hm, g)) rfl ?_
  obtain ⟨r1, h_r1, hp⟩ := am_b_e hp
  refine am_Rn.call am_h131 (mj := 135) (As := [.ref 0, .int v1]) (F' := (5, [(0, .ref 0), (1, .int v1), (2, .int v2)], [])) (M' := am_m135) (r := some (.int r1)) (S1 := (am_sh, h, hm, g)) rfl am_h135 rfl (by subst h_r1; exact (ezH_isBeat (by omega) v1 h)) ?_
  refine am_Rn.ite am_h131 (c := r1 = 0) (t := 23) (f := 8) (lv := [(0, .ref 0), (1, .int v1), (2, .int v2)]) (st := []) (S' := (am_sh, h, hm, g)) rfl hp (fun hc2 hp => ?_) (fun hc2 hp => ?_)
  · refine am_Rn.run am_h131 1 (F' := (24, [(0, .ref 0), (1, .int v1), (2, .int v2)], [.int (-1)])) (S' := (am_sh, h, hm, g)) rfl ?_
    cases hp
    exact am_Rn.ret am_h131 rfl
  · refine am_Rn.run am_h131 1 (F' := (9, [(0, .ref 0), (1, .int v1), (2, .int v2)], [.int v2])) (S' := (am_sh, h, hm, g)) rfl ?_
    refine am_Rn.ite am_h131 (c := v2 < 0) (t := 23) (f := 12) (lv := [(0, .ref 0), (1, .int v1), (2, .int v2)]) (st := []) (S' := (am_sh, h, hm, g)) rfl hp (fun hc3 hp => ?_) (fun hc3 hp => ?_)
    · refine am_Rn.run am_h131 1 (F' := (24, [(0, .ref 0), (1, .int v1), (2, .int v2)], [.int (-1)])) (S' := (am_sh, h, hm, g)) rfl ?_
      cases hp
      exact am_Rn.ret am_h131 rfl
    · refine am_Rn.run am_h131 4 (F' := (20, [(0, .ref 0), (1, .int v1), (2, .int v2)], [.int (h 1 0), .int v2])) (S' := (am_sh, h, hm, g)) rfl ?_
      refine am_Rn.ite am_h131 (c := v2 < (h 1 0)) (t := 25) (f := 23) (lv := [(0, .ref 0), (1, .int v1), (2, .int v2)]) (st := []) (S' := (am_sh, h, hm, g)) rfl hp (fun hc4 hp => ?_) (fun hc4 hp => ?_)
      · refine am_Rn.run am_h131 4 (F' := (30, [(4, .int 0), (3, .int 0), (0, .ref 0), (1, .int v1), (2, .int v2)], [])) (S' := (am_sh, h, hm, g)) rfl ?_
        refine am_Rn.sub [2, 3, 4, 1, 0] rfl rfl ?_
        exact ezH_sees_L30 hd R am_N v1 v2 0 0 h hp
      · refine am_Rn.run am_h131 1 (F' := (24, [(0, .ref 0), (1, .int v1), (2, .int v2)], [.int (-1)])) (S' := (am_sh, h, hm, g)) rfl ?_
        cases hp
        exact am_Rn.ret am_h131 rfl
/-- SixHands$Stage.become(LSixHands$Stage;)V [10, 1] -/
def zG_become (h : (Nat → Nat → Int32)) : (Nat → Nat → Int32) := am_b (va_up h 10 (upd (h 10) 1 (h 1 1))) fun h1 => am_b (va_up h1 11 (va_cpy (h1 2) (h1 11) 0 0 3)) fun h2 => am_b (va_up h2 12 (va_cpy (h2 3) (h2 12) 0 0 3)) fun h3 => am_b (va_up h3 10 (upd (h3 10) 4 (h3 1 4))) fun h4 => am_b (va_up h4 13 (va_cpy (h4 4) (h4 13) 0 0 6)) fun h5 => am_b (va_up h5 14 (va_cpy (h5 5) (h5 14) 0 0 6)) fun h6 => am_b (va_up h6 15 (va_cpy (h6 6) (h6 15) 0 0 6)) fun h7 => am_b (va_up h7 16 (va_cpy (h7 7) (h7 16) 0 0 6)) fun h8 => am_b (va_up h8 10 (upd (h8 10) 9 (h8 1 9))) fun h9 => am_b (va_up h9 10 (upd (h9 10) 10 (h9 1 10))) fun h10 => am_b (va_up h10 10 (upd (h10 10) 11 (h10 1 11))) fun h11 => am_b (va_up h11 10 (upd (h11 10) 12 (h11 1 12))) fun h12 => am_b (va_up h12 10 (upd (h12 10) 13 (h12 1 13))) fun h13 => am_b (va_up h13 17 (va_cpy (h13 8) (h13 17) 0 0 144)) fun h14 => am_b (va_up h14 18 (va_cpy (h14 9) (h14 18) 0 0 144)) fun h15 => h15
set_option maxRecDepth 20000 in
theorem ezG_become {d : Nat} (hd : 0 ≤ d) (h : (Nat → Nat → Int32)) : am_Ev 83 Xs am_P d 71 [.ref 10, .ref 1] (am_sh, h, hm, g) (none, (am_sh, (zG_become h), hm, g)) := by
  obtain ⟨R, hp⟩ : ∃ R, zG_become h = R := ⟨_, rfl⟩
  rw [hp]
  unfold zG_become at hp
  show am_Rn 83 Xs am_P _ 71 (0, [(0, .ref 10), (1, .ref 1)], []) _ _
  obtain ⟨h1, h_h1, hp⟩ := am_b_e hp
  obtain ⟨h2, h_h2, hp⟩ := am_b_e hp
  obtain ⟨h3, h_h3, hp⟩ := am_b_e hp
  obtain ⟨h4, h_h4, hp⟩ := am_b_e hp
  obtain ⟨h5, h_h5, hp⟩ := am_b_e hp
  obtain ⟨h6, h_h6, hp⟩ := am_b_e hp
  obtain ⟨h7, h_h7, hp⟩ := am_b_e hp
  obtain ⟨h8, h_h8, hp⟩ := am_b_e hp
  obtain ⟨h9, h_h9, hp⟩ := am_b_e hp
  obtain ⟨h10, h_h10, hp⟩ := am_b_e hp
  obtain ⟨h11, h_h11, hp⟩ := am_b_e hp
  obtain ⟨h12, h_h12, hp⟩ := am_b_e hp
  obtain ⟨h13, h_h13, hp⟩ := am_b_e hp
  obtain ⟨h14, h_h14, hp⟩ := am_b_e hp
  obtain ⟨h15, h_h15, hp⟩ := am_b_e hp
  refine am_Rn.run am_h71 108 (F' := (200, [(0, .ref 10), (1, .ref 1)], [])) (S' := (am_sh, h15, hm, g)) (by subst h_h1; subst h_h2; subst h_h3; subst h_h4; subst h_h5; subst h_h6; subst h_h7; subst h_h8; subst h_h9; subst h_h10; subst h_h11; subst h_h12; subst h_h13; subst h_h14; subst h_h15; rfl) ?_
  subst hp
  exact am_Rn.ret am_h71 rfl
/-- SixHands.image()I [0] -/
def zH_image (h : (Nat → Nat → Int32)) : Int32 × (Nat → Nat → Int32) := am_b (zG_become h) fun r1 => (r1 1 13, r1)
set_option maxRecDepth 20000 in
theorem ezH_image {d : Nat} (hd : 1 ≤ d) (h : (Nat → Nat → Int32)) : am_Ev 83 Xs am_P d 132 [.ref 0] (am_sh, h, hm, g) (some (.int (((zH_image h)).1)), (am_sh, ((zH_image h)).2, hm, g)) := by
  obtain ⟨R, hp⟩ : ∃ R, zH_image h = R := ⟨_, rfl⟩
  rw [hp]
  obtain ⟨d, rfl⟩ : ∃ k, d = k + 1 := ⟨d - 1, by omega⟩
  unfold zH_image at hp
  show am_Rn 83 Xs am_P _ 132 (0, [(0, .ref 0)], []) _ _
  refine am_Rn.run am_h132 4 (F' := (8, [(0, .ref 0)], [.ref 1, .ref 10])) (S' := (am_sh, h, hm, g)) rfl ?_
  obtain ⟨r1, h_r1, hp⟩ := am_b_e hp
  refine am_Rn.call am_h132 (mj := 71) (As := [.ref 10, .ref 1]) (F' := (11, [(0, .ref 0)], [])) (M' := am_m71) (r := none) (S1 := (am_sh, r1, hm, g)) rfl am_h71 rfl (by subst h_r1; exact (ezG_become (by omega) h)) ?_
  refine am_Rn.run am_h132 3 (F' := (18, [(0, .ref 0)], [.int (r1 1 13)])) (S' := (am_sh, r1, hm, g)) rfl ?_
  subst hp
  exact am_Rn.ret am_h132 rfl
/-- SixHands$Stage.become(LSixHands$Stage;)V [1, 10] -/
def zG_become_2 (h : (Nat → Nat → Int32)) : (Nat → Nat → Int32) := am_b (va_up h 1 (upd (h 1) 1 (h 10 1))) fun h1 => am_b (va_up h1 2 (va_cpy (h1 11) (h1 2) 0 0 3)) fun h2 => am_b (va_up h2 3 (va_cpy (h2 12) (h2 3) 0 0 3)) fun h3 => am_b (va_up h3 1 (upd (h3 1) 4 (h3 10 4))) fun h4 => am_b (va_up h4 4 (va_cpy (h4 13) (h4 4) 0 0 6)) fun h5 => am_b (va_up h5 5 (va_cpy (h5 14) (h5 5) 0 0 6)) fun h6 => am_b (va_up h6 6 (va_cpy (h6 15) (h6 6) 0 0 6)) fun h7 => am_b (va_up h7 7 (va_cpy (h7 16) (h7 7) 0 0 6)) fun h8 => am_b (va_up h8 1 (upd (h8 1) 9 (h8 10 9))) fun h9 => am_b (va_up h9 1 (upd (h9 1) 10 (h9 10 10))) fun h10 => am_b (va_up h10 1 (upd (h10 1) 11 (h10 10 11))) fun h11 => am_b (va_up h11 1 (upd (h11 1) 12 (h11 10 12))) fun h12 => am_b (va_up h12 1 (upd (h12 1) 13 (h12 10 13))) fun h13 => am_b (va_up h13 8 (va_cpy (h13 17) (h13 8) 0 0 144)) fun h14 => am_b (va_up h14 9 (va_cpy (h14 18) (h14 9) 0 0 144)) fun h15 => h15
set_option maxRecDepth 20000 in
theorem ezG_become_2 {d : Nat} (hd : 0 ≤ d) (h : (Nat → Nat → Int32)) : am_Ev 83 Xs am_P d 71 [.ref 1, .ref 10] (am_sh, h, hm, g) (none, (am_sh, (zG_become_2 h), hm, g)) := by
  obtain ⟨R, hp⟩ : ∃ R, zG_become_2 h = R := ⟨_, rfl⟩
  rw [hp]
  unfold zG_become_2 at hp
  show am_Rn 83 Xs am_P _ 71 (0, [(0, .ref 1), (1, .ref 10)], []) _ _
  obtain ⟨h1, h_h1, hp⟩ := am_b_e hp
  obtain ⟨h2, h_h2, hp⟩ := am_b_e hp
  obtain ⟨h3, h_h3, hp⟩ := am_b_e hp
  obtain ⟨h4, h_h4, hp⟩ := am_b_e hp
  obtain ⟨h5, h_h5, hp⟩ := am_b_e hp
  obtain ⟨h6, h_h6, hp⟩ := am_b_e hp
  obtain ⟨h7, h_h7, hp⟩ := am_b_e hp
  obtain ⟨h8, h_h8, hp⟩ := am_b_e hp
  obtain ⟨h9, h_h9, hp⟩ := am_b_e hp
  obtain ⟨h10, h_h10, hp⟩ := am_b_e hp
  obtain ⟨h11, h_h11, hp⟩ := am_b_e hp
  obtain ⟨h12, h_h12, hp⟩ := am_b_e hp
  obtain ⟨h13, h_h13, hp⟩ := am_b_e hp
  obtain ⟨h14, h_h14, hp⟩ := am_b_e hp
  obtain ⟨h15, h_h15, hp⟩ := am_b_e hp
  refine am_Rn.run am_h71 108 (F' := (200, [(0, .ref 1), (1, .ref 10)], [])) (S' := (am_sh, h15, hm, g)) (by subst h_h1; subst h_h2; subst h_h3; subst h_h4; subst h_h5; subst h_h6; subst h_h7; subst h_h8; subst h_h9; subst h_h10; subst h_h11; subst h_h12; subst h_h13; subst h_h14; subst h_h15; rfl) ?_
  subst hp
  exact am_Rn.ret am_h71 rfl
/-- SixHands.back()I [0] -/
def zH_back (h : (Nat → Nat → Int32)) : Option (Int32 × (Nat → Nat → Int32)) := (zH_changed h).bind fun r1 => am_b (zG_become_2 r1) fun r2 => some ((r2 1 13, r2))
set_option maxRecDepth 20000 in
theorem ezH_back {d : Nat} (hd : 2 ≤ d) (h : (Nat → Nat → Int32)) (R : Int32 × (Nat → Nat → Int32)) (hp : zH_back h = some R) : am_Ev 83 Xs am_P d 133 [.ref 0] (am_sh, h, hm, g) (some (.int R.1), (am_sh, R.2, hm, g)) := by
  obtain ⟨d, rfl⟩ : ∃ k, d = k + 1 := ⟨d - 1, by omega⟩
  unfold zH_back at hp
  show am_Rn 83 Xs am_P _ 133 (0, [(0, .ref 0)], []) _ _
  refine am_Rn.run am_h133 1 (F' := (1, [(0, .ref 0)], [.ref 0])) (S' := (am_sh, h, hm, g)) rfl ?_
  obtain ⟨r1, h_r1, hp⟩ := am_bind hp
  refine am_Rn.call am_h133 (mj := 141) (As := [.ref 0]) (F' := (4, [(0, .ref 0)], [])) (M' := am_m141) (r := none) (S1 := (am_sh, r1, hm, g)) rfl am_h141 rfl (ezH_changed (by omega) h _ h_r1) ?_
  refine am_Rn.run am_h133 4 (F' := (12, [(0, .ref 0)], [.ref 10, .ref 1])) (S' := (am_sh, r1, hm, g)) rfl ?_
  obtain ⟨r2, h_r2, hp⟩ := am_b_e hp
  refine am_Rn.call am_h133 (mj := 71) (As := [.ref 1, .ref 10]) (F' := (15, [(0, .ref 0)], [])) (M' := am_m71) (r := none) (S1 := (am_sh, r2, hm, g)) rfl am_h71 rfl (by subst h_r2; exact (ezG_become_2 (by omega) r1)) ?_
  refine am_Rn.run am_h133 3 (F' := (22, [(0, .ref 0)], [.int (r2 1 13)])) (S' := (am_sh, r2, hm, g)) rfl ?_
  cases hp
  exact am_Rn.ret am_h133 rfl
end
