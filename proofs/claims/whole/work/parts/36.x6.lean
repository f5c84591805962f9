section
variable {Xs : Nat × (Nat → Int32)} {hx hm : Nat → Nat → Int32} {g : Nat → Nat → Int64} {S : am_S}
/-- SixHands.isSet(I)Z [0] -/
def zH_isSet (v1 : Int32) (h : (Nat → Nat → Int32)) : Int32 := if v1 < 0 then (0) else (am_b (zH_everybody h) fun r2 => if r2 < v1 then (0) else (1))
set_option maxRecDepth 20000 in
theorem ezH_isSet {d : Nat} (hd : 1 ≤ d) (v1 : Int32) (h : (Nat → Nat → Int32)) : am_Ev 83 Xs am_P d 138 [.ref 0, .int v1] (am_sh, h, hm, g) (some (.int ((zH_isSet v1 h))), (am_sh, h, hm, g)) := by
  obtain ⟨R, hp⟩ : ∃ R, zH_isSet v1 h = R := ⟨_, rfl⟩
  rw [hp]
  obtain ⟨d, rfl⟩ : ∃ k, d = k + 1 := ⟨d - 1, by omega⟩
  unfold zH_isSet at hp
  show am_Rn 83 Xs am_P _ 138 (0, [(0, .ref 0), (1, .int v1)], []) _ _
  refine am_Rn.run am_h138 1 (F' := (1, [(0, .ref 0), (1, .int v1)], [.int v1])) (S' := (am_sh, h, hm, g)) rfl ?_
  refine am_Rn.ite am_h138 (c := v1 < 0) (t := 16) (f := 4) (lv := [(0, .ref 0), (1, .int v1)]) (st := []) (S' := (am_sh, h, hm, g)) rfl hp (fun hc1 hp => ?_) (fun hc1 hp => ?_)
  · refine am_Rn.run am_h138 1 (F' := (17, [(0, .ref 0), (1, .int v1)], [.int 0])) (S' := (am_sh, h, hm, g)) rfl ?_
    subst hp
    exact am_Rn.ret am_h138 rfl
  · refine am_Rn.run am_h138 2 (F' := (6, [(0, .ref 0), (1, .int v1)], [.ref 0, .int v1])) (S' := (am_sh, h, hm, g)) rfl ?_
    obtain ⟨r2, h_r2, hp⟩ := am_b_e hp
    refine am_Rn.call am_h138 (mj := 139) (As := [.ref 0]) (F' := (9, [(0, .ref 0), (1, .int v1)], [.int v1])) (M' := am_m139) (r := some (.int r2)) (S1 := (am_sh, h, hm, g)) rfl am_h139 rfl (by subst h_r2; exact (ezH_everybody (by omega) h)) ?_
    refine am_Rn.ite am_h138 (c := r2 < v1) (t := 16) (f := 12) (lv := [(0, .ref 0), (1, .int v1)]) (st := []) (S' := (am_sh, h, hm, g)) rfl hp (fun hc3 hp => ?_) (fun hc3 hp => ?_)
    · refine am_Rn.run am_h138 1 (F' := (17, [(0, .ref 0), (1, .int v1)], [.int 0])) (S' := (am_sh, h, hm, g)) rfl ?_
      subst hp
      exact am_Rn.ret am_h138 rfl
    · refine am_Rn.run am_h138 2 (F' := (17, [(0, .ref 0), (1, .int v1)], [.int 1])) (S' := (am_sh, h, hm, g)) rfl ?_
      subst hp
      exact am_Rn.ret am_h138 rfl
/-- SixHands.holdsOf(II)I [] -/
def zH_holdsOf_L11 : Nat → Int32 → Int32 → Int32 → Option (Int32)
  | 0, _, _, _ => none
  | n + 1, v1, v2, v3 => if v3 < 3 then (if ((v1 >>> (v3 &&& 31)) &&& 1) = 0 then (zH_holdsOf_L11 n v1 v2 (v3 + 1)) else (am_b (v2 ||| ((3 : Int32) <<< ((2 * v3) &&& 31))) fun x4 => zH_holdsOf_L11 n v1 x4 (v3 + 1))) else (some v2)
set_option maxRecDepth 20000 in
theorem ezH_holdsOf_L11 {d : Nat} (hd : 0 ≤ d) (R : Int32) : ∀ (n : Nat) (v1 : Int32) (v2 : Int32) (v3 : Int32), zH_holdsOf_L11 n v1 v2 v3 = some R → am_Rn 83 Xs am_P d 144 (11, [(1, .int v1), (2, .int v2), (3, .int v3)], []) S (some (.int R), S)
  | 0, _, _, _, hp => by cases hp
  | n + 1, v1, v2, v3, hp => by
    unfold zH_holdsOf_L11 at hp
    refine am_Rn.run am_h144 2 (F' := (13, [(1, .int v1), (2, .int v2), (3, .int v3)], [.int 3, .int v3])) (S' := S) rfl ?_
    refine am_Rn.ite am_h144 (c := v3 < 3) (t := 16) (f := 38) (lv := [(1, .int v1), (2, .int v2), (3, .int v3)]) (st := []) (S' := S) rfl hp (fun hc2 hp => ?_) (fun hc2 hp => ?_)
    · refine am_Rn.run am_h144 5 (F' := (21, [(1, .int v1), (2, .int v2), (3, .int v3)], [.int ((v1 >>> (v3 &&& 31)) &&& 1)])) (S' := S) rfl ?_
      refine am_Rn.ite am_h144 (c := ((v1 >>> (v3 &&& 31)) &&& 1) = 0) (t := 32) (f := 24) (lv := [(1, .int v1), (2, .int v2), (3, .int v3)]) (st := []) (S' := S) rfl hp (fun hc3 hp => ?_) (fun hc3 hp => ?_)
      · refine am_Rn.run am_h144 2 (F' := (11, [(3, .int (v3 + 1)), (1, .int v1), (2, .int v2)], [])) (S' := S) rfl ?_
        refine am_Rn.sub [1, 2, 0] rfl rfl ?_
        exact ezH_holdsOf_L11 hd R n v1 v2 (v3 + 1) hp
      · obtain ⟨x4, h_x4, hp⟩ := am_b_e hp
        refine am_Rn.run am_h144 10 (F' := (11, [(3, .int (v3 + 1)), (2, .int x4), (1, .int v1)], [])) (S' := S) (by subst h_x4; rfl) ?_
        refine am_Rn.sub [2, 1, 0] rfl rfl ?_
        exact ezH_holdsOf_L11 hd R n v1 x4 (v3 + 1) hp
    · refine am_Rn.run am_h144 1 (F' := (39, [(1, .int v1), (2, .int v2), (3, .int v3)], [.int v2])) (S' := S) rfl ?_
      cases hp
      exact am_Rn.ret am_h144 rfl
def zH_holdsOf (v0 : Int32) (v1 : Int32) : Option (Int32) := if v0 = 2 then (some v1) else (zH_holdsOf_L11 am_N v1 0 0)
set_option maxRecDepth 20000 in
theorem ezH_holdsOf {d : Nat} (hd : 0 ≤ d) (v0 : Int32) (v1 : Int32) (R : Int32) (hp : zH_holdsOf v0 v1 = some R) : am_Ev 83 Xs am_P d 144 [.int v0, .int v1] S (some (.int R), S) := by
  unfold zH_holdsOf at hp
  show am_Rn 83 Xs am_P _ 144 (0, [(0, .int v0), (1, .int v1)], []) _ _
  refine am_Rn.run am_h144 2 (F' := (2, [(0, .int v0), (1, .int v1)], [.int 2, .int v0])) (S' := S) rfl ?_
  refine am_Rn.ite am_h144 (c := v0 = 2) (t := 5) (f := 7) (lv := [(0, .int v0), (1, .int v1)]) (st := []) (S' := S) rfl hp (fun hc1 hp => ?_) (fun hc1 hp => ?_)
  · refine am_Rn.run am_h144 1 (F' := (6, [(0, .int v0), (1, .int v1)], [.int v1])) (S' := S) rfl ?_
    cases hp
    exact am_Rn.ret am_h144 rfl
  · refine am_Rn.run am_h144 4 (F' := (11, [(3, .int 0), (2, .int 0), (0, .int v0), (1, .int v1)], [])) (S' := S) rfl ?_
    refine am_Rn.sub [3, 1, 0] rfl rfl ?_
    exact ezH_holdsOf_L11 hd R am_N v1 0 0 hp
/-- SixHands$Search.load(LSixHands$Stage;LSixHands$Laws;II)V [65, 1, 59] -/
def zS_load_J153 (k107 : Int32 → Int32 → Int32 → Int32 → Int32 → (Nat → Nat → Int32) → Option ((Nat → Nat → Int32))) (v3 : Int32) (v4 : Int32) (v5 : Int32) (v6 : Int32) (v7 : Int32) (v8 : Int32) (s1 : Int32) (s2 : Int32) (h : (Nat → Nat → Int32)) : Option ((Nat → Nat → Int32)) := am_ix 144 s1 (am_b (va_up h 68 (upd (h 68) (s1.toNatClampNeg) s2)) fun h22 => (zL_fitting v7 v5 h22).bind fun r23 => am_ix 144 v8 (am_b (va_up h22 69 (upd (h22 69) (v8.toNatClampNeg) (r23 &&& v6))) fun h25 => (zL_passing v7 v5 h25).bind fun r26 => am_ix 144 v8 (am_b (va_up h25 70 (upd (h25 70) (v8.toNatClampNeg) r26)) fun h28 => k107 v3 v4 v5 v6 (v7 + 1) h28)))
set_option maxRecDepth 20000 in
theorem ezS_load_J153 {d : Nat} (hd : 1 ≤ d) (R : (Nat → Nat → Int32)) (k107 : Int32 → Int32 → Int32 → Int32 → Int32 → (Nat → Nat → Int32) → Option ((Nat → Nat → Int32))) (hk107 : ∀ (v3 : Int32) (v4 : Int32) (v5 : Int32) (v6 : Int32) (v7 : Int32) (h : (Nat → Nat → Int32)), k107 v3 v4 v5 v6 v7 h = some R → am_Rn 83 Xs am_P d 51 (107, [(0, .ref 65), (1, .ref 1), (2, .ref 59), (3, .int v3), (4, .int v4), (5, .int v5), (6, .int v6), (7, .int v7)], []) (am_sh, h, hm, g) (none, (am_sh, R, hm, g))) (v3 : Int32) (v4 : Int32) (v5 : Int32) (v6 : Int32) (v7 : Int32) (v8 : Int32) (s1 : Int32) (s2 : Int32) (h : (Nat → Nat → Int32)) (hp : zS_load_J153 k107 v3 v4 v5 v6 v7 v8 s1 s2 h = some R) : am_Rn 83 Xs am_P d 51 (153, [(0, .ref 65), (1, .ref 1), (2, .ref 59), (3, .int v3), (4, .int v4), (5, .int v5), (6, .int v6), (7, .int v7), (8, .int v8)], [.int s2, .int s1, .ref 68]) (am_sh, h, hm, g) (none, (am_sh, R, hm, g)) := by
  obtain ⟨d, rfl⟩ : ∃ k, d = k + 1 := ⟨d - 1, by omega⟩
  unfold zS_load_J153 at hp
  obtain ⟨hn21, hp⟩ := am_ix_e hp
  obtain ⟨h22, h_h22, hp⟩ := am_b_e hp
  refine am_Rn.stepG am_h51 (c := s1 < 0 ∨ 144 ≤ s1.toNatClampNeg) (F' := (154, [(0, .ref 65), (1, .ref 1), (2, .ref 59), (3, .int v3), (4, .int v4), (5, .int v5), (6, .int v6), (7, .int v7), (8, .int v8)], [])) (S' := (am_sh, h22, hm, g)) (by subst h_h22; rfl) hn21 ?_
  refine am_Rn.run am_h51 6 (F' := (165, [(0, .ref 65), (1, .ref 1), (2, .ref 59), (3, .int v3), (4, .int v4), (5, .int v5), (6, .int v6), (7, .int v7), (8, .int v8)], [.int v5, .int v7, .ref 59, .int v8, .ref 69])) (S' := (am_sh, h22, hm, g)) rfl ?_
  obtain ⟨r23, h_r23, hp⟩ := am_bind hp
  refine am_Rn.call am_h51 (mj := 21) (As := [.ref 59, .int v7, .int v5]) (F' := (168, [(0, .ref 65), (1, .ref 1), (2, .ref 59), (3, .int v3), (4, .int v4), (5, .int v5), (6, .int v6), (7, .int v7), (8, .int v8)], [.int v8, .ref 69])) (M' := am_m21) (r := some (.int r23)) (S1 := (am_sh, h22, hm, g)) rfl am_h21 rfl (ezL_fitting (by omega) v7 v5 h22 _ h_r23) ?_
  refine am_Rn.run am_h51 2 (F' := (171, [(0, .ref 65), (1, .ref 1), (2, .ref 59), (3, .int v3), (4, .int v4), (5, .int v5), (6, .int v6), (7, .int v7), (8, .int v8)], [.int (r23 &&& v6), .int v8, .ref 69])) (S' := (am_sh, h22, hm, g)) rfl ?_
  obtain ⟨hn24, hp⟩ := am_ix_e hp
  obtain ⟨h25, h_h25, hp⟩ := am_b_e hp
  refine am_Rn.stepG am_h51 (c := v8 < 0 ∨ 144 ≤ v8.toNatClampNeg) (F' := (172, [(0, .ref 65), (1, .ref 1), (2, .ref 59), (3, .int v3), (4, .int v4), (5, .int v5), (6, .int v6), (7, .int v7), (8, .int v8)], [])) (S' := (am_sh, h25, hm, g)) (by subst h_h25; rfl) hn24 ?_
  refine am_Rn.run am_h51 6 (F' := (183, [(0, .ref 65), (1, .ref 1), (2, .ref 59), (3, .int v3), (4, .int v4), (5, .int v5), (6, .int v6), (7, .int v7), (8, .int v8)], [.int v5, .int v7, .ref 59, .int v8, .ref 70])) (S' := (am_sh, h25, hm, g)) rfl ?_
  obtain ⟨r26, h_r26, hp⟩ := am_bind hp
  refine am_Rn.call am_h51 (mj := 22) (As := [.ref 59, .int v7, .int v5]) (F' := (186, [(0, .ref 65), (1, .ref 1), (2, .ref 59), (3, .int v3), (4, .int v4), (5, .int v5), (6, .int v6), (7, .int v7), (8, .int v8)], [.int v8, .ref 70])) (M' := am_m22) (r := some (.int r26)) (S1 := (am_sh, h25, hm, g)) rfl am_h22 rfl (ezL_passing (by omega) v7 v5 h25 _ h_r26) ?_
  obtain ⟨hn27, hp⟩ := am_ix_e hp
  obtain ⟨h28, h_h28, hp⟩ := am_b_e hp
  refine am_Rn.stepG am_h51 (c := v8 < 0 ∨ 144 ≤ v8.toNatClampNeg) (F' := (187, [(0, .ref 65), (1, .ref 1), (2, .ref 59), (3, .int v3), (4, .int v4), (5, .int v5), (6, .int v6), (7, .int v7), (8, .int v8)], [])) (S' := (am_sh, h28, hm, g)) (by subst h_h28; rfl) hn27 ?_
  refine am_Rn.run am_h51 2 (F' := (107, [(7, .int (v7 + 1)), (0, .ref 65), (1, .ref 1), (2, .ref 59), (3, .int v3), (4, .int v4), (5, .int v5), (6, .int v6), (8, .int v8)], [])) (S' := (am_sh, h28, hm, g)) rfl ?_
  refine am_Rn.sub [1, 2, 3, 4, 5, 6, 7, 0] rfl rfl ?_
  exact hk107 v3 v4 v5 v6 (v7 + 1) h28 hp
def zS_load_L107 (k68 : Int32 → Int32 → Int32 → (Nat → Nat → Int32) → Option ((Nat → Nat → Int32))) : Nat → Int32 → Int32 → Int32 → Int32 → Int32 → (Nat → Nat → Int32) → Option ((Nat → Nat → Int32))
  | 0, _, _, _, _, _, _ => none
  | n + 1, v3, v4, v5, v6, v7, h => if v7 < (h 65 1) then (am_b ((v7 * 6) + v5) fun x18 => if ((v4 >>> (v5 &&& 31)) &&& 1) = 0 then (am_ix 144 x18 (zS_load_J153 (fun v3 v4 v5 v6 v7 h => zS_load_L107 k68 n v3 v4 v5 v6 v7 h) v3 v4 v5 v6 v7 x18 x18 (h 8 (x18.toNatClampNeg)) h)) else (zS_load_J153 (fun v3 v4 v5 v6 v7 h => zS_load_L107 k68 n v3 v4 v5 v6 v7 h) v3 v4 v5 v6 v7 x18 x18 (-1) h)) else (k68 v3 v4 (v5 + 1) h)
set_option maxRecDepth 20000 in
theorem ezS_load_L107 {d : Nat} (hd : 1 ≤ d) (R : (Nat → Nat → Int32)) (k68 : Int32 → Int32 → Int32 → (Nat → Nat → Int32) → Option ((Nat → Nat → Int32))) (hk68 : ∀ (v3 : Int32) (v4 : Int32) (v5 : Int32) (h : (Nat → Nat → Int32)), k68 v3 v4 v5 h = some R → am_Rn 83 Xs am_P d 51 (68, [(0, .ref 65), (1, .ref 1), (2, .ref 59), (3, .int v3), (4, .int v4), (5, .int v5)], []) (am_sh, h, hm, g) (none, (am_sh, R, hm, g))) : ∀ (n : Nat) (v3 : Int32) (v4 : Int32) (v5 : Int32) (v6 : Int32) (v7 : Int32) (h : (Nat → Nat → Int32)), zS_load_L107 k68 n v3 v4 v5 v6 v7 h = some R → am_Rn 83 Xs am_P d 51 (107, [(0, .ref 65), (1, .ref 1), (2, .ref 59), (3, .int v3), (4, .int v4), (5, .int v5), (6, .int v6), (7, .int v7)], []) (am_sh, h, hm, g) (none, (am_sh, R, hm, g))
  | 0, _, _, _, _, _, _, hp => by cases hp
  | n + 1, v3, v4, v5, v6, v7, h, hp => by
    obtain ⟨d, rfl⟩ : ∃ k, d = k + 1 := ⟨d - 1, by omega⟩
    unfold zS_load_L107 at hp
    refine am_Rn.run am_h51 3 (F' := (113, [(0, .ref 65), (1, .ref 1), (2, .ref 59), (3, .int v3), (4, .int v4), (5, .int v5), (6, .int v6), (7, .int v7)], [.int (h 65 1), .int v7])) (S' := (am_sh, h, hm, g)) rfl ?_
    refine am_Rn.ite am_h51 (c := v7 < (h 65 1)) (t := 116) (f := 193) (lv := [(0, .ref 65), (1, .ref 1), (2, .ref 59), (3, .int v3), (4, .int v4), (5, .int v5), (6, .int v6), (7, .int v7)]) (st := []) (S' := (am_sh, h, hm, g)) rfl hp (fun hc17 hp => ?_) (fun hc17 hp => ?_)
    · obtain ⟨x18, h_x18, hp⟩ := am_b_e hp
      refine am_Rn.run am_h51 14 (F' := (139, [(8, .int x18), (0, .ref 65), (1, .ref 1), (2, .ref 59), (3, .int v3), (4, .int v4), (5, .int v5), (6, .int v6), (7, .int v7)], [.int ((v4 >>> (v5 &&& 31)) &&& 1), .int x18, .ref 68])) (S' := (am_sh, h, hm, g)) (by subst h_x18; rfl) ?_
      refine am_Rn.ite am_h51 (c := ((v4 >>> (v5 &&& 31)) &&& 1) = 0) (t := 146) (f := 142) (lv := [(8, .int x18), (0, .ref 65), (1, .ref 1), (2, .ref 59), (3, .int v3), (4, .int v4), (5, .int v5), (6, .int v6), (7, .int v7)]) (st := [.int x18, .ref 68]) (S' := (am_sh, h, hm, g)) rfl hp (fun hc19 hp => ?_) (fun hc19 hp => ?_)
      · refine am_Rn.run am_h51 3 (F' := (152, [(8, .int x18), (0, .ref 65), (1, .ref 1), (2, .ref 59), (3, .int v3), (4, .int v4), (5, .int v5), (6, .int v6), (7, .int v7)], [.int x18, .ref 8, .int x18, .ref 68])) (S' := (am_sh, h, hm, g)) rfl ?_
        obtain ⟨hn20, hp⟩ := am_ix_e hp
        refine am_Rn.stepG am_h51 (c := x18 < 0 ∨ 144 ≤ x18.toNatClampNeg) (F' := (153, [(8, .int x18), (0, .ref 65), (1, .ref 1), (2, .ref 59), (3, .int v3), (4, .int v4), (5, .int v5), (6, .int v6), (7, .int v7)], [.int (h 8 (x18.toNatClampNeg)), .int x18, .ref 68])) (S' := (am_sh, h, hm, g)) rfl hn20 ?_
        refine am_Rn.sub [1, 2, 3, 4, 5, 6, 7, 8, 0] rfl rfl ?_
        exact ezS_load_J153 hd R (fun v3 v4 v5 v6 v7 h => zS_load_L107 k68 n v3 v4 v5 v6 v7 h) (fun v3 v4 v5 v6 v7 h hp => ezS_load_L107 hd R k68 hk68 n v3 v4 v5 v6 v7 h hp) v3 v4 v5 v6 v7 x18 x18 (h 8 (x18.toNatClampNeg)) h hp
      · refine am_Rn.run am_h51 2 (F' := (153, [(8, .int x18), (0, .ref 65), (1, .ref 1), (2, .ref 59), (3, .int v3), (4, .int v4), (5, .int v5), (6, .int v6), (7, .int v7)], [.int (-1), .int x18, .ref 68])) (S' := (am_sh, h, hm, g)) rfl ?_
        refine am_Rn.sub [1, 2, 3, 4, 5, 6, 7, 8, 0] rfl rfl ?_
        exact ezS_load_J153 hd R (fun v3 v4 v5 v6 v7 h => zS_load_L107 k68 n v3 v4 v5 v6 v7 h) (fun v3 v4 v5 v6 v7 h hp => ezS_load_L107 hd R k68 hk68 n v3 v4 v5 v6 v7 h hp) v3 v4 v5 v6 v7 x18 x18 (-1) h hp
    · refine am_Rn.run am_h51 2 (F' := (68, [(5, .int (v5 + 1)), (0, .ref 65), (1, .ref 1), (2, .ref 59), (3, .int v3), (4, .int v4), (6, .int v6), (7, .int v7)], [])) (S' := (am_sh, h, hm, g)) rfl ?_
      refine am_Rn.sub [1, 2, 3, 4, 5, 0] rfl rfl ?_
      exact hk68 v3 v4 (v5 + 1) h hp
def zS_load_L68 : Nat → Int32 → Int32 → Int32 → (Nat → Nat → Int32) → Option ((Nat → Nat → Int32))
  | 0, _, _, _, _ => none
  | n + 1, v3, v4, v5, h => if v5 < (h 65 2) then (am_ix 6 v5 (am_ix 6 v5 (am_b (va_up h 66 (upd (h 66) (v5.toNatClampNeg) (h 4 (v5.toNatClampNeg)))) fun h14 => am_ix 6 v5 ((zH_holdsOf (h14 66 (v5.toNatClampNeg)) v3).bind fun r16 => zS_load_L107 (fun v3 v4 v5 h => zS_load_L68 n v3 v4 v5 h) am_N v3 v4 v5 r16 0 h14)))) else (some h)
set_option maxRecDepth 20000 in
theorem ezS_load_L68 {d : Nat} (hd : 1 ≤ d) (R : (Nat → Nat → Int32)) : ∀ (n : Nat) (v3 : Int32) (v4 : Int32) (v5 : Int32) (h : (Nat → Nat → Int32)), zS_load_L68 n v3 v4 v5 h = some R → am_Rn 83 Xs am_P d 51 (68, [(0, .ref 65), (1, .ref 1), (2, .ref 59), (3, .int v3), (4, .int v4), (5, .int v5)], []) (am_sh, h, hm, g) (none, (am_sh, R, hm, g))
  | 0, _, _, _, _, hp => by cases hp
  | n + 1, v3, v4, v5, h, hp => by
    obtain ⟨d, rfl⟩ : ∃ k, d = k + 1 := ⟨d - 1, by omega⟩
    unfold zS_load_L68 at hp
    refine am_Rn.run am_h51 3 (F' := (74, [(0, .ref 65), (1, .ref 1), (2, .ref 59), (3, .int v3), (4, .int v4), (5, .int v5)], [.int (h 65 2), .int v5])) (S' := (am_sh, h, hm, g)) rfl ?_
    refine am_Rn.ite am_h51 (c := v5 < (h 65 2)) (t := 77) (f := 199) (lv := [(0, .ref 65), (1, .ref 1), (2, .ref 59), (3, .int v3), (4, .int v4), (5, .int v5)]) (st := []) (S' := (am_sh, h, hm, g)) rfl hp (fun hc11 hp => ?_) (fun hc11 hp => ?_)
    · refine am_Rn.run am_h51 6 (F' := (89, [(0, .ref 65), (1, .ref 1), (2, .ref 59), (3, .int v3), (4, .int v4), (5, .int v5)], [.int v5, .ref 4, .int v5, .ref 66])) (S' := (am_sh, h, hm, g)) rfl ?_
      obtain ⟨hn12, hp⟩ := am_ix_e hp
      refine am_Rn.stepG am_h51 (c := v5 < 0 ∨ 6 ≤ v5.toNatClampNeg) (F' := (90, [(0, .ref 65), (1, .ref 1), (2, .ref 59), (3, .int v3), (4, .int v4), (5, .int v5)], [.int (h 4 (v5.toNatClampNeg)), .int v5, .ref 66])) (S' := (am_sh, h, hm, g)) rfl hn12 ?_
      obtain ⟨hn13, hp⟩ := am_ix_e hp
      obtain ⟨h14, h_h14, hp⟩ := am_b_e hp
      refine am_Rn.stepG am_h51 (c := v5 < 0 ∨ 6 ≤ v5.toNatClampNeg) (F' := (91, [(0, .ref 65), (1, .ref 1), (2, .ref 59), (3, .int v3), (4, .int v4), (5, .int v5)], [])) (S' := (am_sh, h14, hm, g)) (by subst h_h14; rfl) hn13 ?_
      refine am_Rn.run am_h51 3 (F' := (97, [(0, .ref 65), (1, .ref 1), (2, .ref 59), (3, .int v3), (4, .int v4), (5, .int v5)], [.int v5, .ref 66])) (S' := (am_sh, h14, hm, g)) rfl ?_
      obtain ⟨hn15, hp⟩ := am_ix_e hp
      refine am_Rn.stepG am_h51 (c := v5 < 0 ∨ 6 ≤ v5.toNatClampNeg) (F' := (98, [(0, .ref 65), (1, .ref 1), (2, .ref 59), (3, .int v3), (4, .int v4), (5, .int v5)], [.int (h14 66 (v5.toNatClampNeg))])) (S' := (am_sh, h14, hm, g)) rfl hn15 ?_
      refine am_Rn.run am_h51 1 (F' := (99, [(0, .ref 65), (1, .ref 1), (2, .ref 59), (3, .int v3), (4, .int v4), (5, .int v5)], [.int v3, .int (h14 66 (v5.toNatClampNeg))])) (S' := (am_sh, h14, hm, g)) rfl ?_
      obtain ⟨r16, h_r16, hp⟩ := am_bind hp
      refine am_Rn.call am_h51 (mj := 144) (As := [.int (h14 66 (v5.toNatClampNeg)), .int v3]) (F' := (102, [(0, .ref 65), (1, .ref 1), (2, .ref 59), (3, .int v3), (4, .int v4), (5, .int v5)], [])) (M' := am_m144) (r := some (.int r16)) (S1 := (am_sh, h14, hm, g)) rfl am_h144 rfl (ezH_holdsOf (by omega) (h14 66 (v5.toNatClampNeg)) v3 _ h_r16) ?_
      refine am_Rn.run am_h51 3 (F' := (107, [(7, .int 0), (6, .int r16), (0, .ref 65), (1, .ref 1), (2, .ref 59), (3, .int v3), (4, .int v4), (5, .int v5)], [])) (S' := (am_sh, h14, hm, g)) rfl ?_
      refine am_Rn.sub [2, 3, 4, 5, 6, 7, 1, 0] rfl rfl ?_
      exact ezS_load_L107 hd R (fun v3 v4 v5 h => zS_load_L68 n v3 v4 v5 h) (fun v3 v4 v5 h hp => ezS_load_L68 hd R n v3 v4 v5 h hp) am_N v3 v4 v5 r16 0 h14 hp
    · cases hp
      exact am_Rn.ret am_h51 rfl
def zS_load_L37 : Nat → Int32 → Int32 → Int32 → (Nat → Nat → Int32) → Option ((Nat → Nat → Int32))
  | 0, _, _, _, _ => none
  | n + 1, v3, v4, v5, h => am_b (zG_hands h) fun r6 => if v5 < r6 then ((zG_orderOf v5 h).bind fun r8 => am_ix 6 v5 (am_b (va_up h 67 (upd (h 67) (v5.toNatClampNeg) r8)) fun h10 => zS_load_L37 n v3 v4 (v5 + 1) h10)) else (zS_load_L68 am_N v3 v4 0 h)
set_option maxRecDepth 20000 in
theorem ezS_load_L37 {d : Nat} (hd : 1 ≤ d) (R : (Nat → Nat → Int32)) : ∀ (n : Nat) (v3 : Int32) (v4 : Int32) (v5 : Int32) (h : (Nat → Nat → Int32)), zS_load_L37 n v3 v4 v5 h = some R → am_Rn 83 Xs am_P d 51 (37, [(0, .ref 65), (1, .ref 1), (2, .ref 59), (3, .int v3), (4, .int v4), (5, .int v5)], []) (am_sh, h, hm, g) (none, (am_sh, R, hm, g))
  | 0, _, _, _, _, hp => by cases hp
  | n + 1, v3, v4, v5, h, hp => by
    obtain ⟨d, rfl⟩ : ∃ k, d = k + 1 := ⟨d - 1, by omega⟩
    unfold zS_load_L37 at hp
    refine am_Rn.run am_h51 2 (F' := (40, [(0, .ref 65), (1, .ref 1), (2, .ref 59), (3, .int v3), (4, .int v4), (5, .int v5)], [.ref 1, .int v5])) (S' := (am_sh, h, hm, g)) rfl ?_
    obtain ⟨r6, h_r6, hp⟩ := am_b_e hp
    refine am_Rn.call am_h51 (mj := 82) (As := [.ref 1]) (F' := (43, [(0, .ref 65), (1, .ref 1), (2, .ref 59), (3, .int v3), (4, .int v4), (5, .int v5)], [.int v5])) (M' := am_m82) (r := some (.int r6)) (S1 := (am_sh, h, hm, g)) rfl am_h82 rfl (by subst h_r6; exact (ezG_hands (by omega) h)) ?_
    refine am_Rn.ite am_h51 (c := v5 < r6) (t := 46) (f := 65) (lv := [(0, .ref 65), (1, .ref 1), (2, .ref 59), (3, .int v3), (4, .int v4), (5, .int v5)]) (st := []) (S' := (am_sh, h, hm, g)) rfl hp (fun hc7 hp => ?_) (fun hc7 hp => ?_)
    · refine am_Rn.run am_h51 5 (F' := (55, [(0, .ref 65), (1, .ref 1), (2, .ref 59), (3, .int v3), (4, .int v4), (5, .int v5)], [.int v5, .ref 1, .int v5, .ref 67])) (S' := (am_sh, h, hm, g)) rfl ?_
      obtain ⟨r8, h_r8, hp⟩ := am_bind hp
      refine am_Rn.call am_h51 (mj := 83) (As := [.ref 1, .int v5]) (F' := (58, [(0, .ref 65), (1, .ref 1), (2, .ref 59), (3, .int v3), (4, .int v4), (5, .int v5)], [.int v5, .ref 67])) (M' := am_m83) (r := some (.int r8)) (S1 := (am_sh, h, hm, g)) rfl am_h83 rfl (ezG_orderOf (by omega) v5 h _ h_r8) ?_
      obtain ⟨hn9, hp⟩ := am_ix_e hp
      obtain ⟨h10, h_h10, hp⟩ := am_b_e hp
      refine am_Rn.stepG am_h51 (c := v5 < 0 ∨ 6 ≤ v5.toNatClampNeg) (F' := (59, [(0, .ref 65), (1, .ref 1), (2, .ref 59), (3, .int v3), (4, .int v4), (5, .int v5)], [])) (S' := (am_sh, h10, hm, g)) (by subst h_h10; rfl) hn9 ?_
      refine am_Rn.run am_h51 2 (F' := (37, [(5, .int (v5 + 1)), (0, .ref 65), (1, .ref 1), (2, .ref 59), (3, .int v3), (4, .int v4)], [])) (S' := (am_sh, h10, hm, g)) rfl ?_
      refine am_Rn.sub [1, 2, 3, 4, 5, 0] rfl rfl ?_
      exact ezS_load_L37 hd R n v3 v4 (v5 + 1) h10 hp
    · refine am_Rn.run am_h51 2 (F' := (68, [(5, .int 0), (0, .ref 65), (1, .ref 1), (2, .ref 59), (3, .int v3), (4, .int v4)], [])) (S' := (am_sh, h, hm, g)) rfl ?_
      refine am_Rn.sub [1, 2, 3, 4, 5, 0] rfl rfl ?_
      exact ezS_load_L68 hd R am_N v3 v4 0 h hp
def zS_load (v3 : Int32) (v4 : Int32) (h : (Nat → Nat → Int32)) : Option ((Nat → Nat → Int32)) := am_b (va_up h 65 (upd (h 65) 1 (h 1 13))) fun h1 => am_b (va_up h1 65 (upd (h1 65) 2 (h1 1 4))) fun h2 => am_b (zD_bitCount v3) fun r3 => am_b (va_up h2 65 (upd (h2 65) 3 (2 * r3))) fun h4 => am_b (va_up h4 65 (upd (h4 65) 4 (h4 1 9))) fun h5 => zS_load_L37 am_N v3 v4 0 h5
set_option maxRecDepth 20000 in
theorem ezS_load {d : Nat} (hd : 1 ≤ d) (v3 : Int32) (v4 : Int32) (h : (Nat → Nat → Int32)) (R : (Nat → Nat → Int32)) (hp : zS_load v3 v4 h = some R) : am_Ev 83 Xs am_P d 51 [.ref 65, .ref 1, .ref 59, .int v3, .int v4] (am_sh, h, hm, g) (none, (am_sh, R, hm, g)) := by
  obtain ⟨d, rfl⟩ : ∃ k, d = k + 1 := ⟨d - 1, by omega⟩
  unfold zS_load at hp
  show am_Rn 83 Xs am_P _ 51 (0, [(0, .ref 65), (1, .ref 1), (2, .ref 59), (3, .int v3), (4, .int v4)], []) _ _
  obtain ⟨h1, h_h1, hp⟩ := am_b_e hp
  obtain ⟨h2, h_h2, hp⟩ := am_b_e hp
  refine am_Rn.run am_h51 11 (F' := (19, [(0, .ref 65), (1, .ref 1), (2, .ref 59), (3, .int v3), (4, .int v4)], [.int v3, .int 2, .ref 65])) (S' := (am_sh, h2, hm, g)) (by subst h_h1; subst h_h2; rfl) ?_
  obtain ⟨r3, h_r3, hp⟩ := am_b_e hp
  refine am_Rn.call am_h51 (mj := 0) (As := [.int v3]) (F' := (22, [(0, .ref 65), (1, .ref 1), (2, .ref 59), (3, .int v3), (4, .int v4)], [.int 2, .ref 65])) (M' := am_m0) (r := some (.int r3)) (S1 := (am_sh, h2, hm, g)) rfl am_h0 rfl (by subst h_r3; exact (ezD_bitCount (by omega) v3)) ?_
  obtain ⟨h4, h_h4, hp⟩ := am_b_e hp
  obtain ⟨h5, h_h5, hp⟩ := am_b_e hp
  refine am_Rn.run am_h51 8 (F' := (37, [(5, .int 0), (0, .ref 65), (1, .ref 1), (2, .ref 59), (3, .int v3), (4, .int v4)], [])) (S' := (am_sh, h5, hm, g)) (by subst h_h4; subst h_h5; rfl) ?_
  refine am_Rn.sub [1, 2, 3, 4, 5, 0] rfl rfl ?_
  exact ezS_load_L37 hd R am_N v3 v4 0 h5 hp
/-- SixHands$Search.isRoomFor(I)Z [65] -/
def zS_isRoomFor_L7 : Nat → Int32 → Int32 → Int32 → Int32 → (Nat → Nat → Int32) → Option (Int32)
  | 0, _, _, _, _, _ => none
  | n + 1, v1, v2, v3, v4, h => if v4 < (h 65 2) then (am_ix 144 ((v1 * 6) + v4) (if (h 68 (((v1 * 6) + v4).toNatClampNeg)) = (-1) then (zS_isRoomFor_L7 n v1 v2 (v3 + 1) (v4 + 1) h) else (am_ix 6 v4 (if (h 66 (v4.toNatClampNeg)) = 2 then (am_b (v2 + 2) fun x6 => zS_isRoomFor_L7 n v1 x6 v3 (v4 + 1) h) else (am_b (v2 + 1) fun x7 => zS_isRoomFor_L7 n v1 x7 v3 (v4 + 1) h))))) else (if (h 65 3) < v2 then (some 0) else (if ((h 65 3) + (h 65 4)) < (v2 + v3) then (some 0) else (some 1)))
set_option maxRecDepth 20000 in
theorem ezS_isRoomFor_L7 {d : Nat} (hd : 0 ≤ d) (R : Int32) : ∀ (n : Nat) (v1 : Int32) (v2 : Int32) (v3 : Int32) (v4 : Int32) (h : (Nat → Nat → Int32)), zS_isRoomFor_L7 n v1 v2 v3 v4 h = some R → am_Rn 83 Xs am_P d 53 (7, [(0, .ref 65), (1, .int v1), (2, .int v2), (3, .int v3), (4, .int v4)], []) (am_sh, h, hm, g) (some (.int R), (am_sh, h, hm, g))
  | 0, _, _, _, _, _, hp => by cases hp
  | n + 1, v1, v2, v3, v4, h, hp => by
    unfold zS_isRoomFor_L7 at hp
    refine am_Rn.run am_h53 3 (F' := (13, [(0, .ref 65), (1, .int v1), (2, .int v2), (3, .int v3), (4, .int v4)], [.int (h 65 2), .int v4])) (S' := (am_sh, h, hm, g)) rfl ?_
    refine am_Rn.ite am_h53 (c := v4 < (h 65 2)) (t := 16) (f := 63) (lv := [(0, .ref 65), (1, .int v1), (2, .int v2), (3, .int v3), (4, .int v4)]) (st := []) (S' := (am_sh, h, hm, g)) rfl hp (fun hc1 hp => ?_) (fun hc1 hp => ?_)
    · refine am_Rn.run am_h53 7 (F' := (27, [(0, .ref 65), (1, .int v1), (2, .int v2), (3, .int v3), (4, .int v4)], [.int ((v1 * 6) + v4), .ref 68])) (S' := (am_sh, h, hm, g)) rfl ?_
      obtain ⟨hn2, hp⟩ := am_ix_e hp
      refine am_Rn.stepG am_h53 (c := ((v1 * 6) + v4) < 0 ∨ 144 ≤ ((v1 * 6) + v4).toNatClampNeg) (F' := (28, [(0, .ref 65), (1, .int v1), (2, .int v2), (3, .int v3), (4, .int v4)], [.int (h 68 (((v1 * 6) + v4).toNatClampNeg))])) (S' := (am_sh, h, hm, g)) rfl hn2 ?_
      refine am_Rn.run am_h53 1 (F' := (29, [(0, .ref 65), (1, .int v1), (2, .int v2), (3, .int v3), (4, .int v4)], [.int (-1), .int (h 68 (((v1 * 6) + v4).toNatClampNeg))])) (S' := (am_sh, h, hm, g)) rfl ?_
      refine am_Rn.ite am_h53 (c := (h 68 (((v1 * 6) + v4).toNatClampNeg)) = (-1)) (t := 32) (f := 38) (lv := [(0, .ref 65), (1, .int v1), (2, .int v2), (3, .int v3), (4, .int v4)]) (st := []) (S' := (am_sh, h, hm, g)) rfl hp (fun hc3 hp => ?_) (fun hc3 hp => ?_)
      · refine am_Rn.run am_h53 4 (F' := (7, [(4, .int (v4 + 1)), (3, .int (v3 + 1)), (0, .ref 65), (1, .int v1), (2, .int v2)], [])) (S' := (am_sh, h, hm, g)) rfl ?_
        refine am_Rn.sub [2, 3, 4, 1, 0] rfl rfl ?_
        exact ezS_isRoomFor_L7 hd R n v1 v2 (v3 + 1) (v4 + 1) h hp
      · refine am_Rn.run am_h53 4 (F' := (45, [(0, .ref 65), (1, .int v1), (2, .int v2), (3, .int v3), (4, .int v4)], [.int v4, .ref 66, .int v2])) (S' := (am_sh, h, hm, g)) rfl ?_
        obtain ⟨hn4, hp⟩ := am_ix_e hp
        refine am_Rn.stepG am_h53 (c := v4 < 0 ∨ 6 ≤ v4.toNatClampNeg) (F' := (46, [(0, .ref 65), (1, .int v1), (2, .int v2), (3, .int v3), (4, .int v4)], [.int (h 66 (v4.toNatClampNeg)), .int v2])) (S' := (am_sh, h, hm, g)) rfl hn4 ?_
        refine am_Rn.run am_h53 1 (F' := (47, [(0, .ref 65), (1, .int v1), (2, .int v2), (3, .int v3), (4, .int v4)], [.int 2, .int (h 66 (v4.toNatClampNeg)), .int v2])) (S' := (am_sh, h, hm, g)) rfl ?_
        refine am_Rn.ite am_h53 (c := (h 66 (v4.toNatClampNeg)) = 2) (t := 50) (f := 54) (lv := [(0, .ref 65), (1, .int v1), (2, .int v2), (3, .int v3), (4, .int v4)]) (st := [.int v2]) (S' := (am_sh, h, hm, g)) rfl hp (fun hc5 hp => ?_) (fun hc5 hp => ?_)
        · obtain ⟨x6, h_x6, hp⟩ := am_b_e hp
          refine am_Rn.run am_h53 6 (F' := (7, [(4, .int (v4 + 1)), (2, .int x6), (0, .ref 65), (1, .int v1), (3, .int v3)], [])) (S' := (am_sh, h, hm, g)) (by subst h_x6; rfl) ?_
          refine am_Rn.sub [2, 3, 1, 4, 0] rfl rfl ?_
          exact ezS_isRoomFor_L7 hd R n v1 x6 v3 (v4 + 1) h hp
        · obtain ⟨x7, h_x7, hp⟩ := am_b_e hp
          refine am_Rn.run am_h53 5 (F' := (7, [(4, .int (v4 + 1)), (2, .int x7), (0, .ref 65), (1, .int v1), (3, .int v3)], [])) (S' := (am_sh, h, hm, g)) (by subst h_x7; rfl) ?_
          refine am_Rn.sub [2, 3, 1, 4, 0] rfl rfl ?_
          exact ezS_isRoomFor_L7 hd R n v1 x7 v3 (v4 + 1) h hp
    · refine am_Rn.run am_h53 3 (F' := (68, [(0, .ref 65), (1, .int v1), (2, .int v2), (3, .int v3), (4, .int v4)], [.int (h 65 3), .int v2])) (S' := (am_sh, h, hm, g)) rfl ?_
      refine am_Rn.ite am_h53 (c := (h 65 3) < v2) (t := 90) (f := 71) (lv := [(0, .ref 65), (1, .int v1), (2, .int v2), (3, .int v3), (4, .int v4)]) (st := []) (S' := (am_sh, h, hm, g)) rfl hp (fun hc8 hp => ?_) (fun hc8 hp => ?_)
      · refine am_Rn.run am_h53 1 (F' := (91, [(0, .ref 65), (1, .int v1), (2, .int v2), (3, .int v3), (4, .int v4)], [.int 0])) (S' := (am_sh, h, hm, g)) rfl ?_
        cases hp
        exact am_Rn.ret am_h53 rfl
      · refine am_Rn.run am_h53 8 (F' := (83, [(0, .ref 65), (1, .int v1), (2, .int v2), (3, .int v3), (4, .int v4)], [.int ((h 65 3) + (h 65 4)), .int (v2 + v3)])) (S' := (am_sh, h, hm, g)) rfl ?_
        refine am_Rn.ite am_h53 (c := ((h 65 3) + (h 65 4)) < (v2 + v3)) (t := 90) (f := 86) (lv := [(0, .ref 65), (1, .int v1), (2, .int v2), (3, .int v3), (4, .int v4)]) (st := []) (S' := (am_sh, h, hm, g)) rfl hp (fun hc9 hp => ?_) (fun hc9 hp => ?_)
        · refine am_Rn.run am_h53 1 (F' := (91, [(0, .ref 65), (1, .int v1), (2, .int v2), (3, .int v3), (4, .int v4)], [.int 0])) (S' := (am_sh, h, hm, g)) rfl ?_
          cases hp
          exact am_Rn.ret am_h53 rfl
        · refine am_Rn.run am_h53 2 (F' := (91, [(0, .ref 65), (1, .int v1), (2, .int v2), (3, .int v3), (4, .int v4)], [.int 1])) (S' := (am_sh, h, hm, g)) rfl ?_
          cases hp
          exact am_Rn.ret am_h53 rfl
def zS_isRoomFor (v1 : Int32) (h : (Nat → Nat → Int32)) : Option (Int32) := zS_isRoomFor_L7 am_N v1 0 0 0 h
set_option maxRecDepth 20000 in
theorem ezS_isRoomFor {d : Nat} (hd : 0 ≤ d) (v1 : Int32) (h : (Nat → Nat → Int32)) (R : Int32) (hp : zS_isRoomFor v1 h = some R) : am_Ev 83 Xs am_P d 53 [.ref 65, .int v1] (am_sh, h, hm, g) (some (.int R), (am_sh, h, hm, g)) := by
  unfold zS_isRoomFor at hp
  show am_Rn 83 Xs am_P _ 53 (0, [(0, .ref 65), (1, .int v1)], []) _ _
  refine am_Rn.run am_h53 6 (F' := (7, [(4, .int 0), (3, .int 0), (2, .int 0), (0, .ref 65), (1, .int v1)], [])) (S' := (am_sh, h, hm, g)) rfl ?_
  refine am_Rn.sub [3, 4, 2, 1, 0] rfl rfl ?_
  exact ezS_isRoomFor_L7 hd R am_N v1 0 0 0 h hp
/-- SixHands$Search.stayingBits(I)I [65] -/
def zS_stayingBits_L4 : Nat → Int32 → Int32 → Int32 → (Nat → Nat → Int32) → Option (Int32)
  | 0, _, _, _, _ => none
  | n + 1, v1, v2, v3, h => if v3 < (h 65 2) then (am_b ((v1 * 6) + v3) fun x2 => am_b (v2 <<< (3 &&& 31)) fun x3 => am_ix 144 x2 (if (h 68 (x2.toNatClampNeg)) = (-1) then (zS_stayingBits_L4 n v1 x3 (v3 + 1) h) else (am_ix 144 (x2 - 6) (if (h 68 ((x2 - 6).toNatClampNeg)) = (-1) then (zS_stayingBits_L4 n v1 x3 (v3 + 1) h) else (am_b (x3 ||| 7) fun x8 => zS_stayingBits_L4 n v1 x8 (v3 + 1) h))))) else (some v2)
set_option maxRecDepth 20000 in
theorem ezS_stayingBits_L4 {d : Nat} (hd : 0 ≤ d) (R : Int32) : ∀ (n : Nat) (v1 : Int32) (v2 : Int32) (v3 : Int32) (h : (Nat → Nat → Int32)), zS_stayingBits_L4 n v1 v2 v3 h = some R → am_Rn 83 Xs am_P d 60 (4, [(0, .ref 65), (1, .int v1), (2, .int v2), (3, .int v3)], []) (am_sh, h, hm, g) (some (.int R), (am_sh, h, hm, g))
  | 0, _, _, _, _, hp => by cases hp
  | n + 1, v1, v2, v3, h, hp => by
    unfold zS_stayingBits_L4 at hp
    refine am_Rn.run am_h60 3 (F' := (9, [(0, .ref 65), (1, .int v1), (2, .int v2), (3, .int v3)], [.int (h 65 2), .int v3])) (S' := (am_sh, h, hm, g)) rfl ?_
    refine am_Rn.ite am_h60 (c := v3 < (h 65 2)) (t := 12) (f := 60) (lv := [(0, .ref 65), (1, .int v1), (2, .int v2), (3, .int v3)]) (st := []) (S' := (am_sh, h, hm, g)) rfl hp (fun hc1 hp => ?_) (fun hc1 hp => ?_)
    · obtain ⟨x2, h_x2, hp⟩ := am_b_e hp
      obtain ⟨x3, h_x3, hp⟩ := am_b_e hp
      refine am_Rn.run am_h60 13 (F' := (30, [(2, .int x3), (4, .int x2), (0, .ref 65), (1, .int v1), (3, .int v3)], [.int x2, .ref 68])) (S' := (am_sh, h, hm, g)) (by subst h_x2; subst h_x3; rfl) ?_
      obtain ⟨hn4, hp⟩ := am_ix_e hp
      refine am_Rn.stepG am_h60 (c := x2 < 0 ∨ 144 ≤ x2.toNatClampNeg) (F' := (31, [(2, .int x3), (4, .int x2), (0, .ref 65), (1, .int v1), (3, .int v3)], [.int (h 68 (x2.toNatClampNeg))])) (S' := (am_sh, h, hm, g)) rfl hn4 ?_
      refine am_Rn.run am_h60 1 (F' := (32, [(2, .int x3), (4, .int x2), (0, .ref 65), (1, .int v1), (3, .int v3)], [.int (-1), .int (h 68 (x2.toNatClampNeg))])) (S' := (am_sh, h, hm, g)) rfl ?_
      refine am_Rn.ite am_h60 (c := (h 68 (x2.toNatClampNeg)) = (-1)) (t := 54) (f := 35) (lv := [(2, .int x3), (4, .int x2), (0, .ref 65), (1, .int v1), (3, .int v3)]) (st := []) (S' := (am_sh, h, hm, g)) rfl hp (fun hc5 hp => ?_) (fun hc5 hp => ?_)
      · refine am_Rn.run am_h60 2 (F' := (4, [(3, .int (v3 + 1)), (2, .int x3), (4, .int x2), (0, .ref 65), (1, .int v1)], [])) (S' := (am_sh, h, hm, g)) rfl ?_
        refine am_Rn.sub [3, 4, 1, 0] rfl rfl ?_
        exact ezS_stayingBits_L4 hd R n v1 x3 (v3 + 1) h hp
      · refine am_Rn.run am_h60 5 (F' := (44, [(2, .int x3), (4, .int x2), (0, .ref 65), (1, .int v1), (3, .int v3)], [.int (x2 - 6), .ref 68])) (S' := (am_sh, h, hm, g)) rfl ?_
        obtain ⟨hn6, hp⟩ := am_ix_e hp
        refine am_Rn.stepG am_h60 (c := (x2 - 6) < 0 ∨ 144 ≤ (x2 - 6).toNatClampNeg) (F' := (45, [(2, .int x3), (4, .int x2), (0, .ref 65), (1, .int v1), (3, .int v3)], [.int (h 68 ((x2 - 6).toNatClampNeg))])) (S' := (am_sh, h, hm, g)) rfl hn6 ?_
        refine am_Rn.run am_h60 1 (F' := (46, [(2, .int x3), (4, .int x2), (0, .ref 65), (1, .int v1), (3, .int v3)], [.int (-1), .int (h 68 ((x2 - 6).toNatClampNeg))])) (S' := (am_sh, h, hm, g)) rfl ?_
        refine am_Rn.ite am_h60 (c := (h 68 ((x2 - 6).toNatClampNeg)) = (-1)) (t := 54) (f := 49) (lv := [(2, .int x3), (4, .int x2), (0, .ref 65), (1, .int v1), (3, .int v3)]) (st := []) (S' := (am_sh, h, hm, g)) rfl hp (fun hc7 hp => ?_) (fun hc7 hp => ?_)
        · refine am_Rn.run am_h60 2 (F' := (4, [(3, .int (v3 + 1)), (2, .int x3), (4, .int x2), (0, .ref 65), (1, .int v1)], [])) (S' := (am_sh, h, hm, g)) rfl ?_
          refine am_Rn.sub [3, 4, 1, 0] rfl rfl ?_
          exact ezS_stayingBits_L4 hd R n v1 x3 (v3 + 1) h hp
        · obtain ⟨x8, h_x8, hp⟩ := am_b_e hp
          refine am_Rn.run am_h60 6 (F' := (4, [(3, .int (v3 + 1)), (2, .int x8), (4, .int x2), (0, .ref 65), (1, .int v1)], [])) (S' := (am_sh, h, hm, g)) (by subst h_x8; rfl) ?_
          refine am_Rn.sub [3, 4, 1, 0] rfl rfl ?_
          exact ezS_stayingBits_L4 hd R n v1 x8 (v3 + 1) h hp
    · refine am_Rn.run am_h60 1 (F' := (61, [(0, .ref 65), (1, .int v1), (2, .int v2), (3, .int v3)], [.int v2])) (S' := (am_sh, h, hm, g)) rfl ?_
      cases hp
      exact am_Rn.ret am_h60 rfl
def zS_stayingBits (v1 : Int32) (h : (Nat → Nat → Int32)) : Option (Int32) := zS_stayingBits_L4 am_N v1 0 0 h
set_option maxRecDepth 20000 in
theorem ezS_stayingBits {d : Nat} (hd : 0 ≤ d) (v1 : Int32) (h : (Nat → Nat → Int32)) (R : Int32) (hp : zS_stayingBits v1 h = some R) : am_Ev 83 Xs am_P d 60 [.ref 65, .int v1] (am_sh, h, hm, g) (some (.int R), (am_sh, h, hm, g)) := by
  unfold zS_stayingBits at hp
  show am_Rn 83 Xs am_P _ 60 (0, [(0, .ref 65), (1, .int v1)], []) _ _
  refine am_Rn.run am_h60 4 (F' := (4, [(3, .int 0), (2, .int 0), (0, .ref 65), (1, .int v1)], [])) (S' := (am_sh, h, hm, g)) rfl ?_
  refine am_Rn.sub [2, 3, 1, 0] rfl rfl ?_
  exact ezS_stayingBits_L4 hd R am_N v1 0 0 h hp
/-- SixHands$Search.isSameCast(I)Z [65] -/
def zS_isSameCast_J50 (k2 : Int32 → Int32 → (Nat → Nat → Int32) → Option (Int32)) (v1 : Int32) (v2 : Int32) (s0 : Int32) (s1 : Int32) (h : (Nat → Nat → Int32)) : Option (Int32) := if s0 = s1 then (k2 v1 (v2 + 1) h) else (some 0)
set_option maxRecDepth 20000 in
theorem ezS_isSameCast_J50 {d : Nat} (hd : 0 ≤ d) (R : Int32) (k2 : Int32 → Int32 → (Nat → Nat → Int32) → Option (Int32)) (hk2 : ∀ (v1 : Int32) (v2 : Int32) (h : (Nat → Nat → Int32)), k2 v1 v2 h = some R → am_Rn 83 Xs am_P d 59 (2, [(0, .ref 65), (1, .int v1), (2, .int v2)], []) (am_sh, h, hm, g) (some (.int R), (am_sh, h, hm, g))) (v1 : Int32) (v2 : Int32) (s0 : Int32) (s1 : Int32) (h : (Nat → Nat → Int32)) (hp : zS_isSameCast_J50 k2 v1 v2 s0 s1 h = some R) : am_Rn 83 Xs am_P d 59 (50, [(0, .ref 65), (1, .int v1), (2, .int v2)], [.int s1, .int s0]) (am_sh, h, hm, g) (some (.int R), (am_sh, h, hm, g)) := by
  unfold zS_isSameCast_J50 at hp
  refine am_Rn.ite am_h59 (c := s0 = s1) (t := 55) (f := 53) (lv := [(0, .ref 65), (1, .int v1), (2, .int v2)]) (st := []) (S' := (am_sh, h, hm, g)) rfl hp (fun hc7 hp => ?_) (fun hc7 hp => ?_)
  · refine am_Rn.run am_h59 2 (F' := (2, [(2, .int (v2 + 1)), (0, .ref 65), (1, .int v1)], [])) (S' := (am_sh, h, hm, g)) rfl ?_
    refine am_Rn.sub [1, 2, 0] rfl rfl ?_
    exact hk2 v1 (v2 + 1) h hp
  · refine am_Rn.run am_h59 1 (F' := (54, [(0, .ref 65), (1, .int v1), (2, .int v2)], [.int 0])) (S' := (am_sh, h, hm, g)) rfl ?_
    cases hp
    exact am_Rn.ret am_h59 rfl
def zS_isSameCast_J32 (k2 : Int32 → Int32 → (Nat → Nat → Int32) → Option (Int32)) (v1 : Int32) (v2 : Int32) (v3 : Int32) (s0 : Int32) (h : (Nat → Nat → Int32)) : Option (Int32) := am_ix 144 (v3 - 6) (if (h 68 ((v3 - 6).toNatClampNeg)) = (-1) then (zS_isSameCast_J50 k2 v1 v2 s0 1 h) else (zS_isSameCast_J50 k2 v1 v2 s0 0 h))
set_option maxRecDepth 20000 in
theorem ezS_isSameCast_J32 {d : Nat} (hd : 0 ≤ d) (R : Int32) (k2 : Int32 → Int32 → (Nat → Nat → Int32) → Option (Int32)) (hk2 : ∀ (v1 : Int32) (v2 : Int32) (h : (Nat → Nat → Int32)), k2 v1 v2 h = some R → am_Rn 83 Xs am_P d 59 (2, [(0, .ref 65), (1, .int v1), (2, .int v2)], []) (am_sh, h, hm, g) (some (.int R), (am_sh, h, hm, g))) (v1 : Int32) (v2 : Int32) (v3 : Int32) (s0 : Int32) (h : (Nat → Nat → Int32)) (hp : zS_isSameCast_J32 k2 v1 v2 v3 s0 h = some R) : am_Rn 83 Xs am_P d 59 (32, [(0, .ref 65), (1, .int v1), (2, .int v2), (3, .int v3)], [.int s0]) (am_sh, h, hm, g) (some (.int R), (am_sh, h, hm, g)) := by
  unfold zS_isSameCast_J32 at hp
  refine am_Rn.run am_h59 5 (F' := (40, [(0, .ref 65), (1, .int v1), (2, .int v2), (3, .int v3)], [.int (v3 - 6), .ref 68, .int s0])) (S' := (am_sh, h, hm, g)) rfl ?_
  obtain ⟨hn5, hp⟩ := am_ix_e hp
  refine am_Rn.stepG am_h59 (c := (v3 - 6) < 0 ∨ 144 ≤ (v3 - 6).toNatClampNeg) (F' := (41, [(0, .ref 65), (1, .int v1), (2, .int v2), (3, .int v3)], [.int (h 68 ((v3 - 6).toNatClampNeg)), .int s0])) (S' := (am_sh, h, hm, g)) rfl hn5 ?_
  refine am_Rn.run am_h59 1 (F' := (42, [(0, .ref 65), (1, .int v1), (2, .int v2), (3, .int v3)], [.int (-1), .int (h 68 ((v3 - 6).toNatClampNeg)), .int s0])) (S' := (am_sh, h, hm, g)) rfl ?_
  refine am_Rn.ite am_h59 (c := (h 68 ((v3 - 6).toNatClampNeg)) = (-1)) (t := 45) (f := 49) (lv := [(0, .ref 65), (1, .int v1), (2, .int v2), (3, .int v3)]) (st := [.int s0]) (S' := (am_sh, h, hm, g)) rfl hp (fun hc6 hp => ?_) (fun hc6 hp => ?_)
  · refine am_Rn.run am_h59 2 (F' := (50, [(0, .ref 65), (1, .int v1), (2, .int v2), (3, .int v3)], [.int 1, .int s0])) (S' := (am_sh, h, hm, g)) rfl ?_
    refine am_Rn.sub [0, 1, 2] rfl rfl ?_
    exact ezS_isSameCast_J50 hd R k2 hk2 v1 v2 s0 1 h hp
  · refine am_Rn.run am_h59 1 (F' := (50, [(0, .ref 65), (1, .int v1), (2, .int v2), (3, .int v3)], [.int 0, .int s0])) (S' := (am_sh, h, hm, g)) rfl ?_
    refine am_Rn.sub [0, 1, 2] rfl rfl ?_
    exact ezS_isSameCast_J50 hd R k2 hk2 v1 v2 s0 0 h hp
def zS_isSameCast_L2 : Nat → Int32 → Int32 → (Nat → Nat → Int32) → Option (Int32)
  | 0, _, _, _ => none
  | n + 1, v1, v2, h => if v2 < (h 65 2) then (am_b ((v1 * 6) + v2) fun x2 => am_ix 144 x2 (if (h 68 (x2.toNatClampNeg)) = (-1) then (zS_isSameCast_J32 (fun v1 v2 h => zS_isSameCast_L2 n v1 v2 h) v1 v2 x2 1 h) else (zS_isSameCast_J32 (fun v1 v2 h => zS_isSameCast_L2 n v1 v2 h) v1 v2 x2 0 h))) else (some 1)
set_option maxRecDepth 20000 in
theorem ezS_isSameCast_L2 {d : Nat} (hd : 0 ≤ d) (R : Int32) : ∀ (n : Nat) (v1 : Int32) (v2 : Int32) (h : (Nat → Nat → Int32)), zS_isSameCast_L2 n v1 v2 h = some R → am_Rn 83 Xs am_P d 59 (2, [(0, .ref 65), (1, .int v1), (2, .int v2)], []) (am_sh, h, hm, g) (some (.int R), (am_sh, h, hm, g))
  | 0, _, _, _, hp => by cases hp
  | n + 1, v1, v2, h, hp => by
    unfold zS_isSameCast_L2 at hp
    refine am_Rn.run am_h59 3 (F' := (7, [(0, .ref 65), (1, .int v1), (2, .int v2)], [.int (h 65 2), .int v2])) (S' := (am_sh, h, hm, g)) rfl ?_
    refine am_Rn.ite am_h59 (c := v2 < (h 65 2)) (t := 10) (f := 61) (lv := [(0, .ref 65), (1, .int v1), (2, .int v2)]) (st := []) (S' := (am_sh, h, hm, g)) rfl hp (fun hc1 hp => ?_) (fun hc1 hp => ?_)
    · obtain ⟨x2, h_x2, hp⟩ := am_b_e hp
      refine am_Rn.run am_h59 9 (F' := (22, [(3, .int x2), (0, .ref 65), (1, .int v1), (2, .int v2)], [.int x2, .ref 68])) (S' := (am_sh, h, hm, g)) (by subst h_x2; rfl) ?_
      obtain ⟨hn3, hp⟩ := am_ix_e hp
      refine am_Rn.stepG am_h59 (c := x2 < 0 ∨ 144 ≤ x2.toNatClampNeg) (F' := (23, [(3, .int x2), (0, .ref 65), (1, .int v1), (2, .int v2)], [.int (h 68 (x2.toNatClampNeg))])) (S' := (am_sh, h, hm, g)) rfl hn3 ?_
      refine am_Rn.run am_h59 1 (F' := (24, [(3, .int x2), (0, .ref 65), (1, .int v1), (2, .int v2)], [.int (-1), .int (h 68 (x2.toNatClampNeg))])) (S' := (am_sh, h, hm, g)) rfl ?_
      refine am_Rn.ite am_h59 (c := (h 68 (x2.toNatClampNeg)) = (-1)) (t := 27) (f := 31) (lv := [(3, .int x2), (0, .ref 65), (1, .int v1), (2, .int v2)]) (st := []) (S' := (am_sh, h, hm, g)) rfl hp (fun hc4 hp => ?_) (fun hc4 hp => ?_)
      · refine am_Rn.run am_h59 2 (F' := (32, [(3, .int x2), (0, .ref 65), (1, .int v1), (2, .int v2)], [.int 1])) (S' := (am_sh, h, hm, g)) rfl ?_
        refine am_Rn.sub [1, 2, 3, 0] rfl rfl ?_
        exact ezS_isSameCast_J32 hd R (fun v1 v2 h => zS_isSameCast_L2 n v1 v2 h) (fun v1 v2 h hp => ezS_isSameCast_L2 hd R n v1 v2 h hp) v1 v2 x2 1 h hp
      · refine am_Rn.run am_h59 1 (F' := (32, [(3, .int x2), (0, .ref 65), (1, .int v1), (2, .int v2)], [.int 0])) (S' := (am_sh, h, hm, g)) rfl ?_
        refine am_Rn.sub [1, 2, 3, 0] rfl rfl ?_
        exact ezS_isSameCast_J32 hd R (fun v1 v2 h => zS_isSameCast_L2 n v1 v2 h) (fun v1 v2 h hp => ezS_isSameCast_L2 hd R n v1 v2 h hp) v1 v2 x2 0 h hp
    · refine am_Rn.run am_h59 1 (F' := (62, [(0, .ref 65), (1, .int v1), (2, .int v2)], [.int 1])) (S' := (am_sh, h, hm, g)) rfl ?_
      cases hp
      exact am_Rn.ret am_h59 rfl
def zS_isSameCast (v1 : Int32) (h : (Nat → Nat → Int32)) : Option (Int32) := zS_isSameCast_L2 am_N v1 0 h
set_option maxRecDepth 20000 in
theorem ezS_isSameCast {d : Nat} (hd : 0 ≤ d) (v1 : Int32) (h : (Nat → Nat → Int32)) (R : Int32) (hp : zS_isSameCast v1 h = some R) : am_Ev 83 Xs am_P d 59 [.ref 65, .int v1] (am_sh, h, hm, g) (some (.int R), (am_sh, h, hm, g)) := by
  unfold zS_isSameCast at hp
  show am_Rn 83 Xs am_P _ 59 (0, [(0, .ref 65), (1, .int v1)], []) _ _
  refine am_Rn.run am_h59 2 (F' := (2, [(2, .int 0), (0, .ref 65), (1, .int v1)], [])) (S' := (am_sh, h, hm, g)) rfl ?_
  refine am_Rn.sub [1, 2, 0] rfl rfl ?_
  exact ezS_isSameCast_L2 hd R am_N v1 0 h hp
/-- SixHands$Search.priceOfSame(II)I [65] -/
def zS_priceOfSame_L18 : Nat → Int32 → Int32 → Int32 → (Nat → Nat → Int32) → Option (Int32)
  | 0, _, _, _, _ => none
  | n + 1, v2, v3, v4, h => if v4 < v3 then (some 1000000) else (am_b ((v3 + v4) / 2) fun x5 => am_ix 17280 x5 (if (h 71 (x5.toNatClampNeg)) = v2 then (am_ix 17280 x5 (some (h 72 (x5.toNatClampNeg)))) else (am_ix 17280 x5 (if (h 71 (x5.toNatClampNeg)) < v2 then (am_b (x5 + 1) fun x11 => zS_priceOfSame_L18 n v2 x11 v4 h) else (am_b (x5 - 1) fun x12 => zS_priceOfSame_L18 n v2 v3 x12 h)))))
set_option maxRecDepth 20000 in
theorem ezS_priceOfSame_L18 {d : Nat} (hd : 0 ≤ d) (R : Int32) : ∀ (n : Nat) (v2 : Int32) (v3 : Int32) (v4 : Int32) (h : (Nat → Nat → Int32)), zS_priceOfSame_L18 n v2 v3 v4 h = some R → am_Rn 83 Xs am_P d 62 (18, [(0, .ref 65), (2, .int v2), (3, .int v3), (4, .int v4)], []) (am_sh, h, hm, g) (some (.int R), (am_sh, h, hm, g))
  | 0, _, _, _, _, hp => by cases hp
  | n + 1, v2, v3, v4, h, hp => by
    unfold zS_priceOfSame_L18 at hp
    refine am_Rn.run am_h62 2 (F' := (21, [(0, .ref 65), (2, .int v2), (3, .int v3), (4, .int v4)], [.int v4, .int v3])) (S' := (am_sh, h, hm, g)) rfl ?_
    refine am_Rn.ite am_h62 (c := v4 < v3) (t := 79) (f := 24) (lv := [(0, .ref 65), (2, .int v2), (3, .int v3), (4, .int v4)]) (st := []) (S' := (am_sh, h, hm, g)) rfl hp (fun hc4 hp => ?_) (fun hc4 hp => ?_)
    · refine am_Rn.run am_h62 1 (F' := (81, [(0, .ref 65), (2, .int v2), (3, .int v3), (4, .int v4)], [.int 1000000])) (S' := (am_sh, h, hm, g)) rfl ?_
      cases hp
      exact am_Rn.ret am_h62 rfl
    · obtain ⟨x5, h_x5, hp⟩ := am_b_e hp
      refine am_Rn.run am_h62 9 (F' := (38, [(5, .int x5), (0, .ref 65), (2, .int v2), (3, .int v3), (4, .int v4)], [.int x5, .ref 71])) (S' := (am_sh, h, hm, g)) (by subst h_x5; rfl) ?_
      obtain ⟨hn6, hp⟩ := am_ix_e hp
      refine am_Rn.stepG am_h62 (c := x5 < 0 ∨ 17280 ≤ x5.toNatClampNeg) (F' := (39, [(5, .int x5), (0, .ref 65), (2, .int v2), (3, .int v3), (4, .int v4)], [.int (h 71 (x5.toNatClampNeg))])) (S' := (am_sh, h, hm, g)) rfl hn6 ?_
      refine am_Rn.run am_h62 1 (F' := (40, [(5, .int x5), (0, .ref 65), (2, .int v2), (3, .int v3), (4, .int v4)], [.int v2, .int (h 71 (x5.toNatClampNeg))])) (S' := (am_sh, h, hm, g)) rfl ?_
      refine am_Rn.ite am_h62 (c := (h 71 (x5.toNatClampNeg)) = v2) (t := 43) (f := 51) (lv := [(5, .int x5), (0, .ref 65), (2, .int v2), (3, .int v3), (4, .int v4)]) (st := []) (S' := (am_sh, h, hm, g)) rfl hp (fun hc7 hp => ?_) (fun hc7 hp => ?_)
      · refine am_Rn.run am_h62 3 (F' := (49, [(5, .int x5), (0, .ref 65), (2, .int v2), (3, .int v3), (4, .int v4)], [.int x5, .ref 72])) (S' := (am_sh, h, hm, g)) rfl ?_
        obtain ⟨hn8, hp⟩ := am_ix_e hp
        refine am_Rn.stepG am_h62 (c := x5 < 0 ∨ 17280 ≤ x5.toNatClampNeg) (F' := (50, [(5, .int x5), (0, .ref 65), (2, .int v2), (3, .int v3), (4, .int v4)], [.int (h 72 (x5.toNatClampNeg))])) (S' := (am_sh, h, hm, g)) rfl hn8 ?_
        cases hp
        exact am_Rn.ret am_h62 rfl
      · refine am_Rn.run am_h62 3 (F' := (57, [(5, .int x5), (0, .ref 65), (2, .int v2), (3, .int v3), (4, .int v4)], [.int x5, .ref 71])) (S' := (am_sh, h, hm, g)) rfl ?_
        obtain ⟨hn9, hp⟩ := am_ix_e hp
        refine am_Rn.stepG am_h62 (c := x5 < 0 ∨ 17280 ≤ x5.toNatClampNeg) (F' := (58, [(5, .int x5), (0, .ref 65), (2, .int v2), (3, .int v3), (4, .int v4)], [.int (h 71 (x5.toNatClampNeg))])) (S' := (am_sh, h, hm, g)) rfl hn9 ?_
        refine am_Rn.run am_h62 1 (F' := (59, [(5, .int x5), (0, .ref 65), (2, .int v2), (3, .int v3), (4, .int v4)], [.int v2, .int (h 71 (x5.toNatClampNeg))])) (S' := (am_sh, h, hm, g)) rfl ?_
        refine am_Rn.ite am_h62 (c := (h 71 (x5.toNatClampNeg)) < v2) (t := 62) (f := 70) (lv := [(5, .int x5), (0, .ref 65), (2, .int v2), (3, .int v3), (4, .int v4)]) (st := []) (S' := (am_sh, h, hm, g)) rfl hp (fun hc10 hp => ?_) (fun hc10 hp => ?_)
        · obtain ⟨x11, h_x11, hp⟩ := am_b_e hp
          refine am_Rn.run am_h62 6 (F' := (18, [(3, .int x11), (5, .int x5), (0, .ref 65), (2, .int v2), (4, .int v4)], [])) (S' := (am_sh, h, hm, g)) (by subst h_x11; rfl) ?_
          refine am_Rn.sub [2, 3, 0, 4] rfl rfl ?_
          exact ezS_priceOfSame_L18 hd R n v2 x11 v4 h hp
        · obtain ⟨x12, h_x12, hp⟩ := am_b_e hp
          refine am_Rn.run am_h62 5 (F' := (18, [(4, .int x12), (5, .int x5), (0, .ref 65), (2, .int v2), (3, .int v3)], [])) (S' := (am_sh, h, hm, g)) (by subst h_x12; rfl) ?_
          refine am_Rn.sub [2, 3, 4, 0] rfl rfl ?_
          exact ezS_priceOfSame_L18 hd R n v2 v3 x12 h hp
def zS_priceOfSame (v1 : Int32) (v2 : Int32) (h : (Nat → Nat → Int32)) : Option (Int32) := am_b (v1 * 720) fun x1 => am_ix 24 v1 (am_b ((x1 + (h 73 (v1.toNatClampNeg))) - 1) fun x3 => zS_priceOfSame_L18 am_N v2 x1 x3 h)
set_option maxRecDepth 20000 in
theorem ezS_priceOfSame {d : Nat} (hd : 0 ≤ d) (v1 : Int32) (v2 : Int32) (h : (Nat → Nat → Int32)) (R : Int32) (hp : zS_priceOfSame v1 v2 h = some R) : am_Ev 83 Xs am_P d 62 [.ref 65, .int v1, .int v2] (am_sh, h, hm, g) (some (.int R), (am_sh, h, hm, g)) := by
  unfold zS_priceOfSame at hp
  show am_Rn 83 Xs am_P _ 62 (0, [(0, .ref 65), (1, .int v1), (2, .int v2)], []) _ _
  obtain ⟨x1, h_x1, hp⟩ := am_b_e hp
  refine am_Rn.run am_h62 8 (F' := (12, [(3, .int x1), (0, .ref 65), (1, .int v1), (2, .int v2)], [.int v1, .ref 73, .int x1])) (S' := (am_sh, h, hm, g)) (by subst h_x1; rfl) ?_
  obtain ⟨hn2, hp⟩ := am_ix_e hp
  refine am_Rn.stepG am_h62 (c := v1 < 0 ∨ 24 ≤ v1.toNatClampNeg) (F' := (13, [(3, .int x1), (0, .ref 65), (1, .int v1), (2, .int v2)], [.int (h 73 (v1.toNatClampNeg)), .int x1])) (S' := (am_sh, h, hm, g)) rfl hn2 ?_
  obtain ⟨x3, h_x3, hp⟩ := am_b_e hp
  refine am_Rn.run am_h62 4 (F' := (18, [(4, .int x3), (3, .int x1), (0, .ref 65), (1, .int v1), (2, .int v2)], [])) (S' := (am_sh, h, hm, g)) (by subst h_x3; rfl) ?_
  refine am_Rn.sub [2, 4, 1, 0] rfl rfl ?_
  exact ezS_priceOfSame_L18 hd R am_N v2 x1 x3 h hp
/-- SixHands$Search.shiftOf(I)I [65] -/
def zS_shiftOf (v1 : Int32) (h : (Nat → Nat → Int32)) : Int32 := 3 * (((h 65 2) - 1) - v1)
set_option maxRecDepth 20000 in
theorem ezS_shiftOf {d : Nat} (hd : 0 ≤ d) (v1 : Int32) (h : (Nat → Nat → Int32)) : am_Ev 83 Xs am_P d 64 [.ref 65, .int v1] (am_sh, h, hm, g) (some (.int ((zS_shiftOf v1 h))), (am_sh, h, hm, g)) := by
  obtain ⟨R, hp⟩ : ∃ R, zS_shiftOf v1 h = R := ⟨_, rfl⟩
  rw [hp]
  unfold zS_shiftOf at hp
  show am_Rn 83 Xs am_P _ 64 (0, [(0, .ref 65), (1, .int v1)], []) _ _
  refine am_Rn.run am_h64 8 (F' := (10, [(0, .ref 65), (1, .int v1)], [.int (3 * (((h 65 2) - 1) - v1))])) (S' := (am_sh, h, hm, g)) rfl ?_
  subst hp
  exact am_Rn.ret am_h64 rfl
/-- SixHands$Search.priceOfSwaps(IIII)I [65] -/
def zS_priceOfSwaps_L19 : Nat → Int32 → Int32 → Int32 → Int32 → Int32 → Int32 → (Nat → Nat → Int32) → Option (Int32)
  | 0, _, _, _, _, _, _, _ => none
  | n + 1, v1, v2, v3, v5, v6, v7, h => if v7 < 0 then (some v6) else (if v5 = 0 then (some v6) else (if (v5 &&& 7) = 0 then (am_b (v5 >>> (3 &&& 31)) fun x6 => am_b (v7 + (-1)) fun x7 => zS_priceOfSwaps_L19 n v1 v2 v3 x6 v6 x7 h) else (am_b (zS_shiftOf v7 h) fun r8 => am_ix 6 v7 (am_b (zH_ownerOf (h 66 (v7.toNatClampNeg)) ((v2 >>> (r8 &&& 31)) &&& 7)) fun r10 => am_ix 6 v7 (am_b (zH_ownerOf (h 66 (v7.toNatClampNeg)) ((v3 >>> (r8 &&& 31)) &&& 7)) fun r12 => am_ix 144 ((v1 * 6) + v7) (am_b (zH_passBit r10 r12) fun r14 => if ((h 70 (((v1 * 6) + v7).toNatClampNeg)) &&& r14) = 0 then (some 1000000) else (am_b (v6 + (h 65 0)) fun x16 => am_b (v5 >>> (3 &&& 31)) fun x17 => am_b (v7 + (-1)) fun x18 => zS_priceOfSwaps_L19 n v1 v2 v3 x17 x16 x18 h)))))))
set_option maxRecDepth 20000 in
theorem ezS_priceOfSwaps_L19 {d : Nat} (hd : 1 ≤ d) (R : Int32) : ∀ (n : Nat) (v1 : Int32) (v2 : Int32) (v3 : Int32) (v5 : Int32) (v6 : Int32) (v7 : Int32) (h : (Nat → Nat → Int32)), zS_priceOfSwaps_L19 n v1 v2 v3 v5 v6 v7 h = some R → am_Rn 83 Xs am_P d 63 (19, [(0, .ref 65), (1, .int v1), (2, .int v2), (3, .int v3), (5, .int v5), (6, .int v6), (7, .int v7)], []) (am_sh, h, hm, g) (some (.int R), (am_sh, h, hm, g))
  | 0, _, _, _, _, _, _, _, hp => by cases hp
  | n + 1, v1, v2, v3, v5, v6, v7, h, hp => by
    obtain ⟨d, rfl⟩ : ∃ k, d = k + 1 := ⟨d - 1, by omega⟩
    unfold zS_priceOfSwaps_L19 at hp
    refine am_Rn.run am_h63 1 (F' := (21, [(0, .ref 65), (1, .int v1), (2, .int v2), (3, .int v3), (5, .int v5), (6, .int v6), (7, .int v7)], [.int v7])) (S' := (am_sh, h, hm, g)) rfl ?_
    refine am_Rn.ite am_h63 (c := v7 < 0) (t := 130) (f := 24) (lv := [(0, .ref 65), (1, .int v1), (2, .int v2), (3, .int v3), (5, .int v5), (6, .int v6), (7, .int v7)]) (st := []) (S' := (am_sh, h, hm, g)) rfl hp (fun hc3 hp => ?_) (fun hc3 hp => ?_)
    · refine am_Rn.run am_h63 1 (F' := (132, [(0, .ref 65), (1, .int v1), (2, .int v2), (3, .int v3), (5, .int v5), (6, .int v6), (7, .int v7)], [.int v6])) (S' := (am_sh, h, hm, g)) rfl ?_
      cases hp
      exact am_Rn.ret am_h63 rfl
    · refine am_Rn.run am_h63 1 (F' := (26, [(0, .ref 65), (1, .int v1), (2, .int v2), (3, .int v3), (5, .int v5), (6, .int v6), (7, .int v7)], [.int v5])) (S' := (am_sh, h, hm, g)) rfl ?_
      refine am_Rn.ite am_h63 (c := v5 = 0) (t := 130) (f := 29) (lv := [(0, .ref 65), (1, .int v1), (2, .int v2), (3, .int v3), (5, .int v5), (6, .int v6), (7, .int v7)]) (st := []) (S' := (am_sh, h, hm, g)) rfl hp (fun hc4 hp => ?_) (fun hc4 hp => ?_)
      · refine am_Rn.run am_h63 1 (F' := (132, [(0, .ref 65), (1, .int v1), (2, .int v2), (3, .int v3), (5, .int v5), (6, .int v6), (7, .int v7)], [.int v6])) (S' := (am_sh, h, hm, g)) rfl ?_
        cases hp
        exact am_Rn.ret am_h63 rfl
      · refine am_Rn.run am_h63 3 (F' := (34, [(0, .ref 65), (1, .int v1), (2, .int v2), (3, .int v3), (5, .int v5), (6, .int v6), (7, .int v7)], [.int (v5 &&& 7)])) (S' := (am_sh, h, hm, g)) rfl ?_
        refine am_Rn.ite am_h63 (c := (v5 &&& 7) = 0) (t := 118) (f := 37) (lv := [(0, .ref 65), (1, .int v1), (2, .int v2), (3, .int v3), (5, .int v5), (6, .int v6), (7, .int v7)]) (st := []) (S' := (am_sh, h, hm, g)) rfl hp (fun hc5 hp => ?_) (fun hc5 hp => ?_)
        · obtain ⟨x6, h_x6, hp⟩ := am_b_e hp
          obtain ⟨x7, h_x7, hp⟩ := am_b_e hp
          refine am_Rn.run am_h63 6 (F' := (19, [(7, .int x7), (5, .int x6), (0, .ref 65), (1, .int v1), (2, .int v2), (3, .int v3), (6, .int v6)], [])) (S' := (am_sh, h, hm, g)) (by subst h_x6; subst h_x7; rfl) ?_
          refine am_Rn.sub [2, 3, 4, 5, 1, 6, 0] rfl rfl ?_
          exact ezS_priceOfSwaps_L19 hd R n v1 v2 v3 x6 v6 x7 h hp
        · refine am_Rn.run am_h63 2 (F' := (40, [(0, .ref 65), (1, .int v1), (2, .int v2), (3, .int v3), (5, .int v5), (6, .int v6), (7, .int v7)], [.int v7, .ref 65])) (S' := (am_sh, h, hm, g)) rfl ?_
          obtain ⟨r8, h_r8, hp⟩ := am_b_e hp
          refine am_Rn.call am_h63 (mj := 64) (As := [.ref 65, .int v7]) (F' := (43, [(0, .ref 65), (1, .int v1), (2, .int v2), (3, .int v3), (5, .int v5), (6, .int v6), (7, .int v7)], [])) (M' := am_m64) (r := some (.int r8)) (S1 := (am_sh, h, hm, g)) rfl am_h64 rfl (by subst h_r8; exact (ezS_shiftOf (by omega) v7 h)) ?_
          refine am_Rn.run am_h63 4 (F' := (51, [(8, .int r8), (0, .ref 65), (1, .int v1), (2, .int v2), (3, .int v3), (5, .int v5), (6, .int v6), (7, .int v7)], [.int v7, .ref 66])) (S' := (am_sh, h, hm, g)) rfl ?_
          obtain ⟨hn9, hp⟩ := am_ix_e hp
          refine am_Rn.stepG am_h63 (c := v7 < 0 ∨ 6 ≤ v7.toNatClampNeg) (F' := (52, [(8, .int r8), (0, .ref 65), (1, .int v1), (2, .int v2), (3, .int v3), (5, .int v5), (6, .int v6), (7, .int v7)], [.int (h 66 (v7.toNatClampNeg))])) (S' := (am_sh, h, hm, g)) rfl hn9 ?_
          refine am_Rn.run am_h63 5 (F' := (59, [(8, .int r8), (0, .ref 65), (1, .int v1), (2, .int v2), (3, .int v3), (5, .int v5), (6, .int v6), (7, .int v7)], [.int ((v2 >>> (r8 &&& 31)) &&& 7), .int (h 66 (v7.toNatClampNeg))])) (S' := (am_sh, h, hm, g)) rfl ?_
          obtain ⟨r10, h_r10, hp⟩ := am_b_e hp
          refine am_Rn.call am_h63 (mj := 146) (As := [.int (h 66 (v7.toNatClampNeg)), .int ((v2 >>> (r8 &&& 31)) &&& 7)]) (F' := (62, [(8, .int r8), (0, .ref 65), (1, .int v1), (2, .int v2), (3, .int v3), (5, .int v5), (6, .int v6), (7, .int v7)], [])) (M' := am_m146) (r := some (.int r10)) (S1 := (am_sh, h, hm, g)) rfl am_h146 rfl (by subst h_r10; exact (ezH_ownerOf (by omega) (h 66 (v7.toNatClampNeg)) ((v2 >>> (r8 &&& 31)) &&& 7))) ?_
          refine am_Rn.run am_h63 4 (F' := (70, [(9, .int r10), (8, .int r8), (0, .ref 65), (1, .int v1), (2, .int v2), (3, .int v3), (5, .int v5), (6, .int v6), (7, .int v7)], [.int v7, .ref 66])) (S' := (am_sh, h, hm, g)) rfl ?_
          obtain ⟨hn11, hp⟩ := am_ix_e hp
          refine am_Rn.stepG am_h63 (c := v7 < 0 ∨ 6 ≤ v7.toNatClampNeg) (F' := (71, [(9, .int r10), (8, .int r8), (0, .ref 65), (1, .int v1), (2, .int v2), (3, .int v3), (5, .int v5), (6, .int v6), (7, .int v7)], [.int (h 66 (v7.toNatClampNeg))])) (S' := (am_sh, h, hm, g)) rfl hn11 ?_
          refine am_Rn.run am_h63 5 (F' := (78, [(9, .int r10), (8, .int r8), (0, .ref 65), (1, .int v1), (2, .int v2), (3, .int v3), (5, .int v5), (6, .int v6), (7, .int v7)], [.int ((v3 >>> (r8 &&& 31)) &&& 7), .int (h 66 (v7.toNatClampNeg))])) (S' := (am_sh, h, hm, g)) rfl ?_
          obtain ⟨r12, h_r12, hp⟩ := am_b_e hp
          refine am_Rn.call am_h63 (mj := 146) (As := [.int (h 66 (v7.toNatClampNeg)), .int ((v3 >>> (r8 &&& 31)) &&& 7)]) (F' := (81, [(9, .int r10), (8, .int r8), (0, .ref 65), (1, .int v1), (2, .int v2), (3, .int v3), (5, .int v5), (6, .int v6), (7, .int v7)], [])) (M' := am_m146) (r := some (.int r12)) (S1 := (am_sh, h, hm, g)) rfl am_h146 rfl (by subst h_r12; exact (ezH_ownerOf (by omega) (h 66 (v7.toNatClampNeg)) ((v3 >>> (r8 &&& 31)) &&& 7))) ?_
          refine am_Rn.run am_h63 8 (F' := (94, [(10, .int r12), (9, .int r10), (8, .int r8), (0, .ref 65), (1, .int v1), (2, .int v2), (3, .int v3), (5, .int v5), (6, .int v6), (7, .int v7)], [.int ((v1 * 6) + v7), .ref 70])) (S' := (am_sh, h, hm, g)) rfl ?_
          obtain ⟨hn13, hp⟩ := am_ix_e hp
          refine am_Rn.stepG am_h63 (c := ((v1 * 6) + v7) < 0 ∨ 144 ≤ ((v1 * 6) + v7).toNatClampNeg) (F' := (95, [(10, .int r12), (9, .int r10), (8, .int r8), (0, .ref 65), (1, .int v1), (2, .int v2), (3, .int v3), (5, .int v5), (6, .int v6), (7, .int v7)], [.int (h 70 (((v1 * 6) + v7).toNatClampNeg))])) (S' := (am_sh, h, hm, g)) rfl hn13 ?_
          refine am_Rn.run am_h63 2 (F' := (99, [(10, .int r12), (9, .int r10), (8, .int r8), (0, .ref 65), (1, .int v1), (2, .int v2), (3, .int v3), (5, .int v5), (6, .int v6), (7, .int v7)], [.int r12, .int r10, .int (h 70 (((v1 * 6) + v7).toNatClampNeg))])) (S' := (am_sh, h, hm, g)) rfl ?_
          obtain ⟨r14, h_r14, hp⟩ := am_b_e hp
          refine am_Rn.call am_h63 (mj := 148) (As := [.int r10, .int r12]) (F' := (102, [(10, .int r12), (9, .int r10), (8, .int r8), (0, .ref 65), (1, .int v1), (2, .int v2), (3, .int v3), (5, .int v5), (6, .int v6), (7, .int v7)], [.int (h 70 (((v1 * 6) + v7).toNatClampNeg))])) (M' := am_m148) (r := some (.int r14)) (S1 := (am_sh, h, hm, g)) rfl am_h148 rfl (by subst h_r14; exact (ezH_passBit (by omega) r10 r12)) ?_
          refine am_Rn.run am_h63 1 (F' := (103, [(10, .int r12), (9, .int r10), (8, .int r8), (0, .ref 65), (1, .int v1), (2, .int v2), (3, .int v3), (5, .int v5), (6, .int v6), (7, .int v7)], [.int ((h 70 (((v1 * 6) + v7).toNatClampNeg)) &&& r14)])) (S' := (am_sh, h, hm, g)) rfl ?_
          refine am_Rn.ite am_h63 (c := ((h 70 (((v1 * 6) + v7).toNatClampNeg)) &&& r14) = 0) (t := 106) (f := 109) (lv := [(10, .int r12), (9, .int r10), (8, .int r8), (0, .ref 65), (1, .int v1), (2, .int v2), (3, .int v3), (5, .int v5), (6, .int v6), (7, .int v7)]) (st := []) (S' := (am_sh, h, hm, g)) rfl hp (fun hc15 hp => ?_) (fun hc15 hp => ?_)
          · refine am_Rn.run am_h63 1 (F' := (108, [(10, .int r12), (9, .int r10), (8, .int r8), (0, .ref 65), (1, .int v1), (2, .int v2), (3, .int v3), (5, .int v5), (6, .int v6), (7, .int v7)], [.int 1000000])) (S' := (am_sh, h, hm, g)) rfl ?_
            cases hp
            exact am_Rn.ret am_h63 rfl
          · obtain ⟨x16, h_x16, hp⟩ := am_b_e hp
            obtain ⟨x17, h_x17, hp⟩ := am_b_e hp
            obtain ⟨x18, h_x18, hp⟩ := am_b_e hp
            refine am_Rn.run am_h63 11 (F' := (19, [(7, .int x18), (5, .int x17), (6, .int x16), (10, .int r12), (9, .int r10), (8, .int r8), (0, .ref 65), (1, .int v1), (2, .int v2), (3, .int v3)], [])) (S' := (am_sh, h, hm, g)) (by subst h_x16; subst h_x17; subst h_x18; rfl) ?_
            refine am_Rn.sub [6, 7, 8, 9, 1, 2, 0] rfl rfl ?_
            exact ezS_priceOfSwaps_L19 hd R n v1 v2 v3 x17 x16 x18 h hp
def zS_priceOfSwaps (v1 : Int32) (v2 : Int32) (v3 : Int32) (v4 : Int32) (h : (Nat → Nat → Int32)) : Option (Int32) := am_b ((v2 ^^^ v3) &&& v4) fun x1 => am_b ((h 65 2) - 1) fun x2 => zS_priceOfSwaps_L19 am_N v1 v2 v3 x1 0 x2 h
set_option maxRecDepth 20000 in
theorem ezS_priceOfSwaps {d : Nat} (hd : 1 ≤ d) (v1 : Int32) (v2 : Int32) (v3 : Int32) (v4 : Int32) (h : (Nat → Nat → Int32)) (R : Int32) (hp : zS_priceOfSwaps v1 v2 v3 v4 h = some R) : am_Ev 83 Xs am_P d 63 [.ref 65, .int v1, .int v2, .int v3, .int v4] (am_sh, h, hm, g) (some (.int R), (am_sh, h, hm, g)) := by
  obtain ⟨d, rfl⟩ : ∃ k, d = k + 1 := ⟨d - 1, by omega⟩
  unfold zS_priceOfSwaps at hp
  show am_Rn 83 Xs am_P _ 63 (0, [(0, .ref 65), (1, .int v1), (2, .int v2), (3, .int v3), (4, .int v4)], []) _ _
  obtain ⟨x1, h_x1, hp⟩ := am_b_e hp
  obtain ⟨x2, h_x2, hp⟩ := am_b_e hp
  refine am_Rn.run am_h63 13 (F' := (19, [(7, .int x2), (6, .int 0), (5, .int x1), (0, .ref 65), (1, .int v1), (2, .int v2), (3, .int v3), (4, .int v4)], [])) (S' := (am_sh, h, hm, g)) (by subst h_x1; subst h_x2; rfl) ?_
  refine am_Rn.sub [3, 4, 5, 6, 2, 1, 0] rfl rfl ?_
  exact ezS_priceOfSwaps_L19 hd R am_N v1 v2 v3 x1 0 x2 h hp
/-- SixHands$Search.priceOnward(IIII)I [65] -/
def zS_priceOnward_L19 : Nat → Int32 → Int32 → Int32 → Int32 → Int32 → Int32 → Int32 → (Nat → Nat → Int32) → Option (Int32)
  | 0, _, _, _, _, _, _, _, _ => none
  | n + 1, v1, v2, v3, v4, v5, v6, v7, h => am_ix 24 v1 (if v7 < (v6 + (h 73 (v1.toNatClampNeg))) then (if v4 < v5 then (am_ix 17280 v7 (if (h 72 (v7.toNatClampNeg)) < v5 then (am_ix 17280 v7 (am_ix 17280 v7 ((zS_priceOfSwaps v1 v2 (h 71 (v7.toNatClampNeg)) v3 h).bind fun r10 => am_b (zD_min v5 ((h 72 (v7.toNatClampNeg)) + r10)) fun r11 => zS_priceOnward_L19 n v1 v2 v3 v4 r11 v6 (v7 + 1) h))) else (zS_priceOnward_L19 n v1 v2 v3 v4 v5 v6 (v7 + 1) h))) else (some v5)) else (some v5))
set_option maxRecDepth 20000 in
theorem ezS_priceOnward_L19 {d : Nat} (hd : 2 ≤ d) (R : Int32) : ∀ (n : Nat) (v1 : Int32) (v2 : Int32) (v3 : Int32) (v4 : Int32) (v5 : Int32) (v6 : Int32) (v7 : Int32) (h : (Nat → Nat → Int32)), zS_priceOnward_L19 n v1 v2 v3 v4 v5 v6 v7 h = some R → am_Rn 83 Xs am_P d 61 (19, [(0, .ref 65), (1, .int v1), (2, .int v2), (3, .int v3), (4, .int v4), (5, .int v5), (6, .int v6), (7, .int v7)], []) (am_sh, h, hm, g) (some (.int R), (am_sh, h, hm, g))
  | 0, _, _, _, _, _, _, _, _, hp => by cases hp
  | n + 1, v1, v2, v3, v4, v5, v6, v7, h, hp => by
    obtain ⟨d, rfl⟩ : ∃ k, d = k + 1 := ⟨d - 1, by omega⟩
    unfold zS_priceOnward_L19 at hp
    refine am_Rn.run am_h61 5 (F' := (28, [(0, .ref 65), (1, .int v1), (2, .int v2), (3, .int v3), (4, .int v4), (5, .int v5), (6, .int v6), (7, .int v7)], [.int v1, .ref 73, .int v6, .int v7])) (S' := (am_sh, h, hm, g)) rfl ?_
    obtain ⟨hn3, hp⟩ := am_ix_e hp
    refine am_Rn.stepG am_h61 (c := v1 < 0 ∨ 24 ≤ v1.toNatClampNeg) (F' := (29, [(0, .ref 65), (1, .int v1), (2, .int v2), (3, .int v3), (4, .int v4), (5, .int v5), (6, .int v6), (7, .int v7)], [.int (h 73 (v1.toNatClampNeg)), .int v6, .int v7])) (S' := (am_sh, h, hm, g)) rfl hn3 ?_
    refine am_Rn.run am_h61 1 (F' := (30, [(0, .ref 65), (1, .int v1), (2, .int v2), (3, .int v3), (4, .int v4), (5, .int v5), (6, .int v6), (7, .int v7)], [.int (v6 + (h 73 (v1.toNatClampNeg))), .int v7])) (S' := (am_sh, h, hm, g)) rfl ?_
    refine am_Rn.ite am_h61 (c := v7 < (v6 + (h 73 (v1.toNatClampNeg)))) (t := 33) (f := 87) (lv := [(0, .ref 65), (1, .int v1), (2, .int v2), (3, .int v3), (4, .int v4), (5, .int v5), (6, .int v6), (7, .int v7)]) (st := []) (S' := (am_sh, h, hm, g)) rfl hp (fun hc4 hp => ?_) (fun hc4 hp => ?_)
    · refine am_Rn.run am_h61 2 (F' := (37, [(0, .ref 65), (1, .int v1), (2, .int v2), (3, .int v3), (4, .int v4), (5, .int v5), (6, .int v6), (7, .int v7)], [.int v4, .int v5])) (S' := (am_sh, h, hm, g)) rfl ?_
      refine am_Rn.ite am_h61 (c := v4 < v5) (t := 40) (f := 87) (lv := [(0, .ref 65), (1, .int v1), (2, .int v2), (3, .int v3), (4, .int v4), (5, .int v5), (6, .int v6), (7, .int v7)]) (st := []) (S' := (am_sh, h, hm, g)) rfl hp (fun hc5 hp => ?_) (fun hc5 hp => ?_)
      · refine am_Rn.run am_h61 3 (F' := (46, [(0, .ref 65), (1, .int v1), (2, .int v2), (3, .int v3), (4, .int v4), (5, .int v5), (6, .int v6), (7, .int v7)], [.int v7, .ref 72])) (S' := (am_sh, h, hm, g)) rfl ?_
        obtain ⟨hn6, hp⟩ := am_ix_e hp
        refine am_Rn.stepG am_h61 (c := v7 < 0 ∨ 17280 ≤ v7.toNatClampNeg) (F' := (47, [(0, .ref 65), (1, .int v1), (2, .int v2), (3, .int v3), (4, .int v4), (5, .int v5), (6, .int v6), (7, .int v7)], [.int (h 72 (v7.toNatClampNeg))])) (S' := (am_sh, h, hm, g)) rfl hn6 ?_
        refine am_Rn.run am_h61 1 (F' := (49, [(0, .ref 65), (1, .int v1), (2, .int v2), (3, .int v3), (4, .int v4), (5, .int v5), (6, .int v6), (7, .int v7)], [.int v5, .int (h 72 (v7.toNatClampNeg))])) (S' := (am_sh, h, hm, g)) rfl ?_
        refine am_Rn.ite am_h61 (c := (h 72 (v7.toNatClampNeg)) < v5) (t := 52) (f := 81) (lv := [(0, .ref 65), (1, .int v1), (2, .int v2), (3, .int v3), (4, .int v4), (5, .int v5), (6, .int v6), (7, .int v7)]) (st := []) (S' := (am_sh, h, hm, g)) rfl hp (fun hc7 hp => ?_) (fun hc7 hp => ?_)
        · refine am_Rn.run am_h61 4 (F' := (60, [(0, .ref 65), (1, .int v1), (2, .int v2), (3, .int v3), (4, .int v4), (5, .int v5), (6, .int v6), (7, .int v7)], [.int v7, .ref 72, .int v5])) (S' := (am_sh, h, hm, g)) rfl ?_
          obtain ⟨hn8, hp⟩ := am_ix_e hp
          refine am_Rn.stepG am_h61 (c := v7 < 0 ∨ 17280 ≤ v7.toNatClampNeg) (F' := (61, [(0, .ref 65), (1, .int v1), (2, .int v2), (3, .int v3), (4, .int v4), (5, .int v5), (6, .int v6), (7, .int v7)], [.int (h 72 (v7.toNatClampNeg)), .int v5])) (S' := (am_sh, h, hm, g)) rfl hn8 ?_
          refine am_Rn.run am_h61 6 (F' := (70, [(0, .ref 65), (1, .int v1), (2, .int v2), (3, .int v3), (4, .int v4), (5, .int v5), (6, .int v6), (7, .int v7)], [.int v7, .ref 71, .int v2, .int v1, .ref 65, .int (h 72 (v7.toNatClampNeg)), .int v5])) (S' := (am_sh, h, hm, g)) rfl ?_
          obtain ⟨hn9, hp⟩ := am_ix_e hp
          refine am_Rn.stepG am_h61 (c := v7 < 0 ∨ 17280 ≤ v7.toNatClampNeg) (F' := (71, [(0, .ref 65), (1, .int v1), (2, .int v2), (3, .int v3), (4, .int v4), (5, .int v5), (6, .int v6), (7, .int v7)], [.int (h 71 (v7.toNatClampNeg)), .int v2, .int v1, .ref 65, .int (h 72 (v7.toNatClampNeg)), .int v5])) (S' := (am_sh, h, hm, g)) rfl hn9 ?_
          refine am_Rn.run am_h61 1 (F' := (72, [(0, .ref 65), (1, .int v1), (2, .int v2), (3, .int v3), (4, .int v4), (5, .int v5), (6, .int v6), (7, .int v7)], [.int v3, .int (h 71 (v7.toNatClampNeg)), .int v2, .int v1, .ref 65, .int (h 72 (v7.toNatClampNeg)), .int v5])) (S' := (am_sh, h, hm, g)) rfl ?_
          obtain ⟨r10, h_r10, hp⟩ := am_bind hp
          refine am_Rn.call am_h61 (mj := 63) (As := [.ref 65, .int v1, .int v2, .int (h 71 (v7.toNatClampNeg)), .int v3]) (F' := (75, [(0, .ref 65), (1, .int v1), (2, .int v2), (3, .int v3), (4, .int v4), (5, .int v5), (6, .int v6), (7, .int v7)], [.int (h 72 (v7.toNatClampNeg)), .int v5])) (M' := am_m63) (r := some (.int r10)) (S1 := (am_sh, h, hm, g)) rfl am_h63 rfl (ezS_priceOfSwaps (by omega) v1 v2 (h 71 (v7.toNatClampNeg)) v3 h _ h_r10) ?_
          refine am_Rn.run am_h61 1 (F' := (76, [(0, .ref 65), (1, .int v1), (2, .int v2), (3, .int v3), (4, .int v4), (5, .int v5), (6, .int v6), (7, .int v7)], [.int ((h 72 (v7.toNatClampNeg)) + r10), .int v5])) (S' := (am_sh, h, hm, g)) rfl ?_
          obtain ⟨r11, h_r11, hp⟩ := am_b_e hp
          refine am_Rn.call am_h61 (mj := 4) (As := [.int v5, .int ((h 72 (v7.toNatClampNeg)) + r10)]) (F' := (79, [(0, .ref 65), (1, .int v1), (2, .int v2), (3, .int v3), (4, .int v4), (5, .int v5), (6, .int v6), (7, .int v7)], [])) (M' := am_m4) (r := some (.int r11)) (S1 := (am_sh, h, hm, g)) rfl am_h4 rfl (by subst h_r11; exact (ezD_min (by omega) v5 ((h 72 (v7.toNatClampNeg)) + r10))) ?_
          refine am_Rn.run am_h61 3 (F' := (19, [(7, .int (v7 + 1)), (5, .int r11), (0, .ref 65), (1, .int v1), (2, .int v2), (3, .int v3), (4, .int v4), (6, .int v6)], [])) (S' := (am_sh, h, hm, g)) rfl ?_
          refine am_Rn.sub [2, 3, 4, 5, 6, 1, 7, 0] rfl rfl ?_
          exact ezS_priceOnward_L19 hd R n v1 v2 v3 v4 r11 v6 (v7 + 1) h hp
        · refine am_Rn.run am_h61 2 (F' := (19, [(7, .int (v7 + 1)), (0, .ref 65), (1, .int v1), (2, .int v2), (3, .int v3), (4, .int v4), (5, .int v5), (6, .int v6)], [])) (S' := (am_sh, h, hm, g)) rfl ?_
          refine am_Rn.sub [1, 2, 3, 4, 5, 6, 7, 0] rfl rfl ?_
          exact ezS_priceOnward_L19 hd R n v1 v2 v3 v4 v5 v6 (v7 + 1) h hp
      · refine am_Rn.run am_h61 1 (F' := (89, [(0, .ref 65), (1, .int v1), (2, .int v2), (3, .int v3), (4, .int v4), (5, .int v5), (6, .int v6), (7, .int v7)], [.int v5])) (S' := (am_sh, h, hm, g)) rfl ?_
        cases hp
        exact am_Rn.ret am_h61 rfl
    · refine am_Rn.run am_h61 1 (F' := (89, [(0, .ref 65), (1, .int v1), (2, .int v2), (3, .int v3), (4, .int v4), (5, .int v5), (6, .int v6), (7, .int v7)], [.int v5])) (S' := (am_sh, h, hm, g)) rfl ?_
      cases hp
      exact am_Rn.ret am_h61 rfl
def zS_priceOnward (v1 : Int32) (v2 : Int32) (v3 : Int32) (v4 : Int32) (h : (Nat → Nat → Int32)) : Option (Int32) := (zS_priceOfSame v1 v2 h).bind fun r1 => am_b (v1 * 720) fun x2 => zS_priceOnward_L19 am_N v1 v2 v3 v4 r1 x2 x2 h
set_option maxRecDepth 20000 in
theorem ezS_priceOnward {d : Nat} (hd : 2 ≤ d) (v1 : Int32) (v2 : Int32) (v3 : Int32) (v4 : Int32) (h : (Nat → Nat → Int32)) (R : Int32) (hp : zS_priceOnward v1 v2 v3 v4 h = some R) : am_Ev 83 Xs am_P d 61 [.ref 65, .int v1, .int v2, .int v3, .int v4] (am_sh, h, hm, g) (some (.int R), (am_sh, h, hm, g)) := by
  obtain ⟨d, rfl⟩ : ∃ k, d = k + 1 := ⟨d - 1, by omega⟩
  unfold zS_priceOnward at hp
  show am_Rn 83 Xs am_P _ 61 (0, [(0, .ref 65), (1, .int v1), (2, .int v2), (3, .int v3), (4, .int v4)], []) _ _
  refine am_Rn.run am_h61 3 (F' := (3, [(0, .ref 65), (1, .int v1), (2, .int v2), (3, .int v3), (4, .int v4)], [.int v2, .int v1, .ref 65])) (S' := (am_sh, h, hm, g)) rfl ?_
  obtain ⟨r1, h_r1, hp⟩ := am_bind hp
  refine am_Rn.call am_h61 (mj := 62) (As := [.ref 65, .int v1, .int v2]) (F' := (6, [(0, .ref 65), (1, .int v1), (2, .int v2), (3, .int v3), (4, .int v4)], [])) (M' := am_m62) (r := some (.int r1)) (S1 := (am_sh, h, hm, g)) rfl am_h62 rfl (ezS_priceOfSame (by omega) v1 v2 h _ h_r1) ?_
  obtain ⟨x2, h_x2, hp⟩ := am_b_e hp
  refine am_Rn.run am_h61 7 (F' := (19, [(7, .int x2), (6, .int x2), (5, .int r1), (0, .ref 65), (1, .int v1), (2, .int v2), (3, .int v3), (4, .int v4)], [])) (S' := (am_sh, h, hm, g)) (by subst h_x2; rfl) ?_
  refine am_Rn.sub [3, 4, 5, 6, 7, 2, 1, 0] rfl rfl ?_
  exact ezS_priceOnward_L19 hd R am_N v1 v2 v3 v4 r1 x2 x2 h hp
/-- SixHands$Search.priceAll(I)V [65] -/
def zS_priceAll_J132 (k87 : Int32 → Int32 → Int32 → Int32 → Int32 → Int32 → (Nat → Nat → Int32) → Option ((Nat → Nat → Int32))) (v1 : Int32) (v2 : Int32) (v3 : Int32) (v4 : Int32) (v5 : Int32) (v6 : Int32) (s1 : Int32) (s2 : Int32) (h : (Nat → Nat → Int32)) : Option ((Nat → Nat → Int32)) := am_ix 17280 s1 (am_b (va_up h 72 (upd (h 72) (s1.toNatClampNeg) s2)) fun h17 => am_ix 24 v1 (am_ix 17280 v6 (am_b (zD_min (h17 74 (v1.toNatClampNeg)) (h17 72 (v6.toNatClampNeg))) fun r20 => am_ix 24 v1 (am_b (va_up h17 74 (upd (h17 74) (v1.toNatClampNeg) r20)) fun h22 => k87 v1 v2 v3 v4 v5 (v6 + 1) h22))))
set_option maxRecDepth 20000 in
theorem ezS_priceAll_J132 {d : Nat} (hd : 3 ≤ d) (R : (Nat → Nat → Int32)) (k87 : Int32 → Int32 → Int32 → Int32 → Int32 → Int32 → (Nat → Nat → Int32) → Option ((Nat → Nat → Int32))) (hk87 : ∀ (v1 : Int32) (v2 : Int32) (v3 : Int32) (v4 : Int32) (v5 : Int32) (v6 : Int32) (h : (Nat → Nat → Int32)), k87 v1 v2 v3 v4 v5 v6 h = some R → am_Rn 83 Xs am_P d 58 (87, [(0, .ref 65), (1, .int v1), (2, .int v2), (3, .int v3), (4, .int v4), (5, .int v5), (6, .int v6)], []) (am_sh, h, hm, g) (none, (am_sh, R, hm, g))) (v1 : Int32) (v2 : Int32) (v3 : Int32) (v4 : Int32) (v5 : Int32) (v6 : Int32) (s1 : Int32) (s2 : Int32) (h : (Nat → Nat → Int32)) (hp : zS_priceAll_J132 k87 v1 v2 v3 v4 v5 v6 s1 s2 h = some R) : am_Rn 83 Xs am_P d 58 (132, [(0, .ref 65), (1, .int v1), (2, .int v2), (3, .int v3), (4, .int v4), (5, .int v5), (6, .int v6)], [.int s2, .int s1, .ref 72]) (am_sh, h, hm, g) (none, (am_sh, R, hm, g)) := by
  obtain ⟨d, rfl⟩ : ∃ k, d = k + 1 := ⟨d - 1, by omega⟩
  unfold zS_priceAll_J132 at hp
  obtain ⟨hn16, hp⟩ := am_ix_e hp
  obtain ⟨h17, h_h17, hp⟩ := am_b_e hp
  refine am_Rn.stepG am_h58 (c := s1 < 0 ∨ 17280 ≤ s1.toNatClampNeg) (F' := (133, [(0, .ref 65), (1, .int v1), (2, .int v2), (3, .int v3), (4, .int v4), (5, .int v5), (6, .int v6)], [])) (S' := (am_sh, h17, hm, g)) (by subst h_h17; rfl) hn16 ?_
  refine am_Rn.run am_h58 6 (F' := (143, [(0, .ref 65), (1, .int v1), (2, .int v2), (3, .int v3), (4, .int v4), (5, .int v5), (6, .int v6)], [.int v1, .ref 74, .int v1, .ref 74])) (S' := (am_sh, h17, hm, g)) rfl ?_
  obtain ⟨hn18, hp⟩ := am_ix_e hp
  refine am_Rn.stepG am_h58 (c := v1 < 0 ∨ 24 ≤ v1.toNatClampNeg) (F' := (144, [(0, .ref 65), (1, .int v1), (2, .int v2), (3, .int v3), (4, .int v4), (5, .int v5), (6, .int v6)], [.int (h17 74 (v1.toNatClampNeg)), .int v1, .ref 74])) (S' := (am_sh, h17, hm, g)) rfl hn18 ?_
  refine am_Rn.run am_h58 3 (F' := (150, [(0, .ref 65), (1, .int v1), (2, .int v2), (3, .int v3), (4, .int v4), (5, .int v5), (6, .int v6)], [.int v6, .ref 72, .int (h17 74 (v1.toNatClampNeg)), .int v1, .ref 74])) (S' := (am_sh, h17, hm, g)) rfl ?_
  obtain ⟨hn19, hp⟩ := am_ix_e hp
  refine am_Rn.stepG am_h58 (c := v6 < 0 ∨ 17280 ≤ v6.toNatClampNeg) (F' := (151, [(0, .ref 65), (1, .int v1), (2, .int v2), (3, .int v3), (4, .int v4), (5, .int v5), (6, .int v6)], [.int (h17 72 (v6.toNatClampNeg)), .int (h17 74 (v1.toNatClampNeg)), .int v1, .ref 74])) (S' := (am_sh, h17, hm, g)) rfl hn19 ?_
  obtain ⟨r20, h_r20, hp⟩ := am_b_e hp
  refine am_Rn.call am_h58 (mj := 4) (As := [.int (h17 74 (v1.toNatClampNeg)), .int (h17 72 (v6.toNatClampNeg))]) (F' := (154, [(0, .ref 65), (1, .int v1), (2, .int v2), (3, .int v3), (4, .int v4), (5, .int v5), (6, .int v6)], [.int v1, .ref 74])) (M' := am_m4) (r := some (.int r20)) (S1 := (am_sh, h17, hm, g)) rfl am_h4 rfl (by subst h_r20; exact (ezD_min (by omega) (h17 74 (v1.toNatClampNeg)) (h17 72 (v6.toNatClampNeg)))) ?_
  obtain ⟨hn21, hp⟩ := am_ix_e hp
  obtain ⟨h22, h_h22, hp⟩ := am_b_e hp
  refine am_Rn.stepG am_h58 (c := v1 < 0 ∨ 24 ≤ v1.toNatClampNeg) (F' := (155, [(0, .ref 65), (1, .int v1), (2, .int v2), (3, .int v3), (4, .int v4), (5, .int v5), (6, .int v6)], [])) (S' := (am_sh, h22, hm, g)) (by subst h_h22; rfl) hn21 ?_
  refine am_Rn.run am_h58 2 (F' := (87, [(6, .int (v6 + 1)), (0, .ref 65), (1, .int v1), (2, .int v2), (3, .int v3), (4, .int v4), (5, .int v5)], [])) (S' := (am_sh, h22, hm, g)) rfl ?_
  refine am_Rn.sub [1, 2, 3, 4, 5, 6, 0] rfl rfl ?_
  exact hk87 v1 v2 v3 v4 v5 (v6 + 1) h22 hp
def zS_priceAll_L87 : Nat → Int32 → Int32 → Int32 → Int32 → Int32 → Int32 → (Nat → Nat → Int32) → Option ((Nat → Nat → Int32))
  | 0, _, _, _, _, _, _, _ => none
  | n + 1, v1, v2, v3, v4, v5, v6, h => am_ix 24 v1 (if v6 < (v2 + (h 73 (v1.toNatClampNeg))) then (if v3 = 0 then (am_ix 17280 v6 ((zS_priceOnward (v1 + 1) (h 71 (v6.toNatClampNeg)) v4 v5 h).bind fun r15 => zS_priceAll_J132 (fun v1 v2 v3 v4 v5 v6 h => zS_priceAll_L87 n v1 v2 v3 v4 v5 v6 h) v1 v2 v3 v4 v5 v6 v6 r15 h)) else (zS_priceAll_J132 (fun v1 v2 v3 v4 v5 v6 h => zS_priceAll_L87 n v1 v2 v3 v4 v5 v6 h) v1 v2 v3 v4 v5 v6 v6 0 h)) else (some h))
set_option maxRecDepth 20000 in
theorem ezS_priceAll_L87 {d : Nat} (hd : 3 ≤ d) (R : (Nat → Nat → Int32)) : ∀ (n : Nat) (v1 : Int32) (v2 : Int32) (v3 : Int32) (v4 : Int32) (v5 : Int32) (v6 : Int32) (h : (Nat → Nat → Int32)), zS_priceAll_L87 n v1 v2 v3 v4 v5 v6 h = some R → am_Rn 83 Xs am_P d 58 (87, [(0, .ref 65), (1, .int v1), (2, .int v2), (3, .int v3), (4, .int v4), (5, .int v5), (6, .int v6)], []) (am_sh, h, hm, g) (none, (am_sh, R, hm, g))
  | 0, _, _, _, _, _, _, _, hp => by cases hp
  | n + 1, v1, v2, v3, v4, v5, v6, h, hp => by
    obtain ⟨d, rfl⟩ : ∃ k, d = k + 1 := ⟨d - 1, by omega⟩
    unfold zS_priceAll_L87 at hp
    refine am_Rn.run am_h58 5 (F' := (95, [(0, .ref 65), (1, .int v1), (2, .int v2), (3, .int v3), (4, .int v4), (5, .int v5), (6, .int v6)], [.int v1, .ref 73, .int v2, .int v6])) (S' := (am_sh, h, hm, g)) rfl ?_
    obtain ⟨hn11, hp⟩ := am_ix_e hp
    refine am_Rn.stepG am_h58 (c := v1 < 0 ∨ 24 ≤ v1.toNatClampNeg) (F' := (96, [(0, .ref 65), (1, .int v1), (2, .int v2), (3, .int v3), (4, .int v4), (5, .int v5), (6, .int v6)], [.int (h 73 (v1.toNatClampNeg)), .int v2, .int v6])) (S' := (am_sh, h, hm, g)) rfl hn11 ?_
    refine am_Rn.run am_h58 1 (F' := (97, [(0, .ref 65), (1, .int v1), (2, .int v2), (3, .int v3), (4, .int v4), (5, .int v5), (6, .int v6)], [.int (v2 + (h 73 (v1.toNatClampNeg))), .int v6])) (S' := (am_sh, h, hm, g)) rfl ?_
    refine am_Rn.ite am_h58 (c := v6 < (v2 + (h 73 (v1.toNatClampNeg)))) (t := 100) (f := 161) (lv := [(0, .ref 65), (1, .int v1), (2, .int v2), (3, .int v3), (4, .int v4), (5, .int v5), (6, .int v6)]) (st := []) (S' := (am_sh, h, hm, g)) rfl hp (fun hc12 hp => ?_) (fun hc12 hp => ?_)
    · refine am_Rn.run am_h58 4 (F' := (107, [(0, .ref 65), (1, .int v1), (2, .int v2), (3, .int v3), (4, .int v4), (5, .int v5), (6, .int v6)], [.int v3, .int v6, .ref 72])) (S' := (am_sh, h, hm, g)) rfl ?_
      refine am_Rn.ite am_h58 (c := v3 = 0) (t := 114) (f := 110) (lv := [(0, .ref 65), (1, .int v1), (2, .int v2), (3, .int v3), (4, .int v4), (5, .int v5), (6, .int v6)]) (st := [.int v6, .ref 72]) (S' := (am_sh, h, hm, g)) rfl hp (fun hc13 hp => ?_) (fun hc13 hp => ?_)
      · refine am_Rn.run am_h58 7 (F' := (124, [(0, .ref 65), (1, .int v1), (2, .int v2), (3, .int v3), (4, .int v4), (5, .int v5), (6, .int v6)], [.int v6, .ref 71, .int (v1 + 1), .ref 65, .int v6, .ref 72])) (S' := (am_sh, h, hm, g)) rfl ?_
        obtain ⟨hn14, hp⟩ := am_ix_e hp
        refine am_Rn.stepG am_h58 (c := v6 < 0 ∨ 17280 ≤ v6.toNatClampNeg) (F' := (125, [(0, .ref 65), (1, .int v1), (2, .int v2), (3, .int v3), (4, .int v4), (5, .int v5), (6, .int v6)], [.int (h 71 (v6.toNatClampNeg)), .int (v1 + 1), .ref 65, .int v6, .ref 72])) (S' := (am_sh, h, hm, g)) rfl hn14 ?_
        refine am_Rn.run am_h58 2 (F' := (129, [(0, .ref 65), (1, .int v1), (2, .int v2), (3, .int v3), (4, .int v4), (5, .int v5), (6, .int v6)], [.int v5, .int v4, .int (h 71 (v6.toNatClampNeg)), .int (v1 + 1), .ref 65, .int v6, .ref 72])) (S' := (am_sh, h, hm, g)) rfl ?_
        obtain ⟨r15, h_r15, hp⟩ := am_bind hp
        refine am_Rn.call am_h58 (mj := 61) (As := [.ref 65, .int (v1 + 1), .int (h 71 (v6.toNatClampNeg)), .int v4, .int v5]) (F' := (132, [(0, .ref 65), (1, .int v1), (2, .int v2), (3, .int v3), (4, .int v4), (5, .int v5), (6, .int v6)], [.int v6, .ref 72])) (M' := am_m61) (r := some (.int r15)) (S1 := (am_sh, h, hm, g)) rfl am_h61 rfl (ezS_priceOnward (by omega) (v1 + 1) (h 71 (v6.toNatClampNeg)) v4 v5 h _ h_r15) ?_
        exact ezS_priceAll_J132 hd R (fun v1 v2 v3 v4 v5 v6 h => zS_priceAll_L87 n v1 v2 v3 v4 v5 v6 h) (fun v1 v2 v3 v4 v5 v6 h hp => ezS_priceAll_L87 hd R n v1 v2 v3 v4 v5 v6 h hp) v1 v2 v3 v4 v5 v6 v6 r15 h hp
      · refine am_Rn.run am_h58 2 (F' := (132, [(0, .ref 65), (1, .int v1), (2, .int v2), (3, .int v3), (4, .int v4), (5, .int v5), (6, .int v6)], [.int 0, .int v6, .ref 72])) (S' := (am_sh, h, hm, g)) rfl ?_
        exact ezS_priceAll_J132 hd R (fun v1 v2 v3 v4 v5 v6 h => zS_priceAll_L87 n v1 v2 v3 v4 v5 v6 h) (fun v1 v2 v3 v4 v5 v6 h hp => ezS_priceAll_L87 hd R n v1 v2 v3 v4 v5 v6 h hp) v1 v2 v3 v4 v5 v6 v6 0 h hp
    · cases hp
      exact am_Rn.ret am_h58 rfl
def zS_priceAll_J74 (v1 : Int32) (v2 : Int32) (v3 : Int32) (v4 : Int32) (s0 : Int32) (h : (Nat → Nat → Int32)) : Option ((Nat → Nat → Int32)) := am_ix 24 v1 (am_b (va_up h 74 (upd (h 74) (v1.toNatClampNeg) 1000000)) fun h10 => zS_priceAll_L87 am_N v1 v2 v3 v4 s0 v2 h10)
set_option maxRecDepth 20000 in
theorem ezS_priceAll_J74 {d : Nat} (hd : 3 ≤ d) (R : (Nat → Nat → Int32)) (v1 : Int32) (v2 : Int32) (v3 : Int32) (v4 : Int32) (s0 : Int32) (h : (Nat → Nat → Int32)) (hp : zS_priceAll_J74 v1 v2 v3 v4 s0 h = some R) : am_Rn 83 Xs am_P d 58 (74, [(0, .ref 65), (1, .int v1), (2, .int v2), (3, .int v3), (4, .int v4)], [.int s0]) (am_sh, h, hm, g) (none, (am_sh, R, hm, g)) := by
  obtain ⟨d, rfl⟩ : ∃ k, d = k + 1 := ⟨d - 1, by omega⟩
  unfold zS_priceAll_J74 at hp
  refine am_Rn.run am_h58 5 (F' := (83, [(5, .int s0), (0, .ref 65), (1, .int v1), (2, .int v2), (3, .int v3), (4, .int v4)], [.int 1000000, .int v1, .ref 74])) (S' := (am_sh, h, hm, g)) rfl ?_
  obtain ⟨hn9, hp⟩ := am_ix_e hp
  obtain ⟨h10, h_h10, hp⟩ := am_b_e hp
  refine am_Rn.stepG am_h58 (c := v1 < 0 ∨ 24 ≤ v1.toNatClampNeg) (F' := (84, [(5, .int s0), (0, .ref 65), (1, .int v1), (2, .int v2), (3, .int v3), (4, .int v4)], [])) (S' := (am_sh, h10, hm, g)) (by subst h_h10; rfl) hn9 ?_
  refine am_Rn.run am_h58 2 (F' := (87, [(6, .int v2), (5, .int s0), (0, .ref 65), (1, .int v1), (2, .int v2), (3, .int v3), (4, .int v4)], [])) (S' := (am_sh, h10, hm, g)) rfl ?_
  refine am_Rn.sub [2, 3, 4, 5, 6, 1, 0] rfl rfl ?_
  exact ezS_priceAll_L87 hd R am_N v1 v2 v3 v4 s0 v2 h10 hp
def zS_priceAll_J73 (v1 : Int32) (v2 : Int32) (v3 : Int32) (v4 : Int32) (s0 : Int32) (s1 : Int32) (h : (Nat → Nat → Int32)) : Option ((Nat → Nat → Int32)) := zS_priceAll_J74 v1 v2 v3 v4 (s0 + s1) h
set_option maxRecDepth 20000 in
theorem ezS_priceAll_J73 {d : Nat} (hd : 3 ≤ d) (R : (Nat → Nat → Int32)) (v1 : Int32) (v2 : Int32) (v3 : Int32) (v4 : Int32) (s0 : Int32) (s1 : Int32) (h : (Nat → Nat → Int32)) (hp : zS_priceAll_J73 v1 v2 v3 v4 s0 s1 h = some R) : am_Rn 83 Xs am_P d 58 (73, [(0, .ref 65), (1, .int v1), (2, .int v2), (3, .int v3), (4, .int v4)], [.int s1, .int s0]) (am_sh, h, hm, g) (none, (am_sh, R, hm, g)) := by
  obtain ⟨d, rfl⟩ : ∃ k, d = k + 1 := ⟨d - 1, by omega⟩
  unfold zS_priceAll_J73 at hp
  refine am_Rn.run am_h58 1 (F' := (74, [(0, .ref 65), (1, .int v1), (2, .int v2), (3, .int v3), (4, .int v4)], [.int (s0 + s1)])) (S' := (am_sh, h, hm, g)) rfl ?_
  exact ezS_priceAll_J74 hd R v1 v2 v3 v4 (s0 + s1) h hp
def zS_priceAll_J37 (v1 : Int32) (v2 : Int32) (v3 : Int32) (s0 : Int32) (h : (Nat → Nat → Int32)) : Option ((Nat → Nat → Int32)) := if v3 = 0 then (am_ix 24 (v1 + 1) ((zS_isSameCast (v1 + 1) h).bind fun r7 => if r7 = 0 then (zS_priceAll_J73 v1 v2 v3 s0 (h 74 ((v1 + 1).toNatClampNeg)) 0 h) else (zS_priceAll_J73 v1 v2 v3 s0 (h 74 ((v1 + 1).toNatClampNeg)) (h 65 0) h))) else (zS_priceAll_J74 v1 v2 v3 s0 0 h)
set_option maxRecDepth 20000 in
theorem ezS_priceAll_J37 {d : Nat} (hd : 3 ≤ d) (R : (Nat → Nat → Int32)) (v1 : Int32) (v2 : Int32) (v3 : Int32) (s0 : Int32) (h : (Nat → Nat → Int32)) (hp : zS_priceAll_J37 v1 v2 v3 s0 h = some R) : am_Rn 83 Xs am_P d 58 (37, [(0, .ref 65), (1, .int v1), (2, .int v2), (3, .int v3)], [.int s0]) (am_sh, h, hm, g) (none, (am_sh, R, hm, g)) := by
  obtain ⟨d, rfl⟩ : ∃ k, d = k + 1 := ⟨d - 1, by omega⟩
  unfold zS_priceAll_J37 at hp
  refine am_Rn.run am_h58 2 (F' := (40, [(4, .int s0), (0, .ref 65), (1, .int v1), (2, .int v2), (3, .int v3)], [.int v3])) (S' := (am_sh, h, hm, g)) rfl ?_
  refine am_Rn.ite am_h58 (c := v3 = 0) (t := 47) (f := 43) (lv := [(4, .int s0), (0, .ref 65), (1, .int v1), (2, .int v2), (3, .int v3)]) (st := []) (S' := (am_sh, h, hm, g)) rfl hp (fun hc5 hp => ?_) (fun hc5 hp => ?_)
  · refine am_Rn.run am_h58 5 (F' := (54, [(4, .int s0), (0, .ref 65), (1, .int v1), (2, .int v2), (3, .int v3)], [.int (v1 + 1), .ref 74])) (S' := (am_sh, h, hm, g)) rfl ?_
    obtain ⟨hn6, hp⟩ := am_ix_e hp
    refine am_Rn.stepG am_h58 (c := (v1 + 1) < 0 ∨ 24 ≤ (v1 + 1).toNatClampNeg) (F' := (55, [(4, .int s0), (0, .ref 65), (1, .int v1), (2, .int v2), (3, .int v3)], [.int (h 74 ((v1 + 1).toNatClampNeg))])) (S' := (am_sh, h, hm, g)) rfl hn6 ?_
    refine am_Rn.run am_h58 4 (F' := (59, [(4, .int s0), (0, .ref 65), (1, .int v1), (2, .int v2), (3, .int v3)], [.int (v1 + 1), .ref 65, .int (h 74 ((v1 + 1).toNatClampNeg))])) (S' := (am_sh, h, hm, g)) rfl ?_
    obtain ⟨r7, h_r7, hp⟩ := am_bind hp
    refine am_Rn.call am_h58 (mj := 59) (As := [.ref 65, .int (v1 + 1)]) (F' := (62, [(4, .int s0), (0, .ref 65), (1, .int v1), (2, .int v2), (3, .int v3)], [.int (h 74 ((v1 + 1).toNatClampNeg))])) (M' := am_m59) (r := some (.int r7)) (S1 := (am_sh, h, hm, g)) rfl am_h59 rfl (ezS_isSameCast (by omega) (v1 + 1) h _ h_r7) ?_
    refine am_Rn.ite am_h58 (c := r7 = 0) (t := 72) (f := 65) (lv := [(4, .int s0), (0, .ref 65), (1, .int v1), (2, .int v2), (3, .int v3)]) (st := [.int (h 74 ((v1 + 1).toNatClampNeg))]) (S' := (am_sh, h, hm, g)) rfl hp (fun hc8 hp => ?_) (fun hc8 hp => ?_)
    · refine am_Rn.run am_h58 1 (F' := (73, [(4, .int s0), (0, .ref 65), (1, .int v1), (2, .int v2), (3, .int v3)], [.int 0, .int (h 74 ((v1 + 1).toNatClampNeg))])) (S' := (am_sh, h, hm, g)) rfl ?_
      refine am_Rn.sub [1, 2, 3, 4, 0] rfl rfl ?_
      exact ezS_priceAll_J73 hd R v1 v2 v3 s0 (h 74 ((v1 + 1).toNatClampNeg)) 0 h hp
    · refine am_Rn.run am_h58 3 (F' := (73, [(4, .int s0), (0, .ref 65), (1, .int v1), (2, .int v2), (3, .int v3)], [.int (h 65 0), .int (h 74 ((v1 + 1).toNatClampNeg))])) (S' := (am_sh, h, hm, g)) rfl ?_
      refine am_Rn.sub [1, 2, 3, 4, 0] rfl rfl ?_
      exact ezS_priceAll_J73 hd R v1 v2 v3 s0 (h 74 ((v1 + 1).toNatClampNeg)) (h 65 0) h hp
  · refine am_Rn.run am_h58 2 (F' := (74, [(4, .int s0), (0, .ref 65), (1, .int v1), (2, .int v2), (3, .int v3)], [.int 0])) (S' := (am_sh, h, hm, g)) rfl ?_
    refine am_Rn.sub [1, 2, 3, 4, 0] rfl rfl ?_
    exact ezS_priceAll_J74 hd R v1 v2 v3 s0 0 h hp
def zS_priceAll_J21 (v1 : Int32) (v2 : Int32) (s0 : Int32) (h : (Nat → Nat → Int32)) : Option ((Nat → Nat → Int32)) := if s0 = 0 then ((zS_stayingBits (v1 + 1) h).bind fun r4 => zS_priceAll_J37 v1 v2 s0 r4 h) else (zS_priceAll_J37 v1 v2 s0 0 h)
set_option maxRecDepth 20000 in
theorem ezS_priceAll_J21 {d : Nat} (hd : 3 ≤ d) (R : (Nat → Nat → Int32)) (v1 : Int32) (v2 : Int32) (s0 : Int32) (h : (Nat → Nat → Int32)) (hp : zS_priceAll_J21 v1 v2 s0 h = some R) : am_Rn 83 Xs am_P d 58 (21, [(0, .ref 65), (1, .int v1), (2, .int v2)], [.int s0]) (am_sh, h, hm, g) (none, (am_sh, R, hm, g)) := by
  obtain ⟨d, rfl⟩ : ∃ k, d = k + 1 := ⟨d - 1, by omega⟩
  unfold zS_priceAll_J21 at hp
  refine am_Rn.run am_h58 2 (F' := (23, [(3, .int s0), (0, .ref 65), (1, .int v1), (2, .int v2)], [.int s0])) (S' := (am_sh, h, hm, g)) rfl ?_
  refine am_Rn.ite am_h58 (c := s0 = 0) (t := 30) (f := 26) (lv := [(3, .int s0), (0, .ref 65), (1, .int v1), (2, .int v2)]) (st := []) (S' := (am_sh, h, hm, g)) rfl hp (fun hc3 hp => ?_) (fun hc3 hp => ?_)
  · refine am_Rn.run am_h58 4 (F' := (34, [(3, .int s0), (0, .ref 65), (1, .int v1), (2, .int v2)], [.int (v1 + 1), .ref 65])) (S' := (am_sh, h, hm, g)) rfl ?_
    obtain ⟨r4, h_r4, hp⟩ := am_bind hp
    refine am_Rn.call am_h58 (mj := 60) (As := [.ref 65, .int (v1 + 1)]) (F' := (37, [(3, .int s0), (0, .ref 65), (1, .int v1), (2, .int v2)], [])) (M' := am_m60) (r := some (.int r4)) (S1 := (am_sh, h, hm, g)) rfl am_h60 rfl (ezS_stayingBits (by omega) (v1 + 1) h _ h_r4) ?_
    refine am_Rn.sub [1, 2, 3, 0] rfl rfl ?_
    exact ezS_priceAll_J37 hd R v1 v2 s0 r4 h hp
  · refine am_Rn.run am_h58 2 (F' := (37, [(3, .int s0), (0, .ref 65), (1, .int v1), (2, .int v2)], [.int 0])) (S' := (am_sh, h, hm, g)) rfl ?_
    refine am_Rn.sub [1, 2, 3, 0] rfl rfl ?_
    exact ezS_priceAll_J37 hd R v1 v2 s0 0 h hp
def zS_priceAll (v1 : Int32) (h : (Nat → Nat → Int32)) : Option ((Nat → Nat → Int32)) := am_b (v1 * 720) fun x1 => if (v1 + 1) < (h 65 1) then (zS_priceAll_J21 v1 x1 0 h) else (zS_priceAll_J21 v1 x1 1 h)
set_option maxRecDepth 20000 in
theorem ezS_priceAll {d : Nat} (hd : 3 ≤ d) (v1 : Int32) (h : (Nat → Nat → Int32)) (R : (Nat → Nat → Int32)) (hp : zS_priceAll v1 h = some R) : am_Ev 83 Xs am_P d 58 [.ref 65, .int v1] (am_sh, h, hm, g) (none, (am_sh, R, hm, g)) := by
  obtain ⟨d, rfl⟩ : ∃ k, d = k + 1 := ⟨d - 1, by omega⟩
  unfold zS_priceAll at hp
  show am_Rn 83 Xs am_P _ 58 (0, [(0, .ref 65), (1, .int v1)], []) _ _
  obtain ⟨x1, h_x1, hp⟩ := am_b_e hp
  refine am_Rn.run am_h58 9 (F' := (13, [(2, .int x1), (0, .ref 65), (1, .int v1)], [.int (h 65 1), .int (v1 + 1)])) (S' := (am_sh, h, hm, g)) (by subst h_x1; rfl) ?_
  refine am_Rn.ite am_h58 (c := (v1 + 1) < (h 65 1)) (t := 20) (f := 16) (lv := [(2, .int x1), (0, .ref 65), (1, .int v1)]) (st := []) (S' := (am_sh, h, hm, g)) rfl hp (fun hc2 hp => ?_) (fun hc2 hp => ?_)
  · refine am_Rn.run am_h58 1 (F' := (21, [(2, .int x1), (0, .ref 65), (1, .int v1)], [.int 0])) (S' := (am_sh, h, hm, g)) rfl ?_
    refine am_Rn.sub [1, 2, 0] rfl rfl ?_
    exact ezS_priceAll_J21 hd R v1 x1 0 h hp
  · refine am_Rn.run am_h58 2 (F' := (21, [(2, .int x1), (0, .ref 65), (1, .int v1)], [.int 1])) (S' := (am_sh, h, hm, g)) rfl ?_
    refine am_Rn.sub [1, 2, 0] rfl rfl ?_
    exact ezS_priceAll_J21 hd R v1 x1 1 h hp
/-- SixHands.handsOf(II)I [] -/
def zH_handsOf (v0 : Int32) (v1 : Int32) : Int32 := if v0 = 2 then ((3 : Int32) <<< ((2 * v1) &&& 31)) else ((1 : Int32) <<< (v1 &&& 31))
set_option maxRecDepth 20000 in
theorem ezH_handsOf {d : Nat} (hd : 0 ≤ d) (v0 : Int32) (v1 : Int32) : am_Ev 83 Xs am_P d 145 [.int v0, .int v1] S (some (.int ((zH_handsOf v0 v1))), S) := by
  obtain ⟨R, hp⟩ : ∃ R, zH_handsOf v0 v1 = R := ⟨_, rfl⟩
  rw [hp]
  unfold zH_handsOf at hp
  show am_Rn 83 Xs am_P _ 145 (0, [(0, .int v0), (1, .int v1)], []) _ _
  refine am_Rn.run am_h145 2 (F' := (2, [(0, .int v0), (1, .int v1)], [.int 2, .int v0])) (S' := S) rfl ?_
  refine am_Rn.ite am_h145 (c := v0 = 2) (t := 5) (f := 13) (lv := [(0, .int v0), (1, .int v1)]) (st := []) (S' := S) rfl hp (fun hc1 hp => ?_) (fun hc1 hp => ?_)
  · refine am_Rn.run am_h145 6 (F' := (16, [(0, .int v0), (1, .int v1)], [.int ((3 : Int32) <<< ((2 * v1) &&& 31))])) (S' := S) rfl ?_
    subst hp
    exact am_Rn.ret am_h145 rfl
  · refine am_Rn.run am_h145 3 (F' := (16, [(0, .int v0), (1, .int v1)], [.int ((1 : Int32) <<< (v1 &&& 31))])) (S' := S) rfl ?_
    subst hp
    exact am_Rn.ret am_h145 rfl
end
