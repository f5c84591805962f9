section
variable {Xs : Nat × (Nat → Int32)} {hx hm : Nat → Nat → Int32} {g : Nat → Nat → Int64} {S : am_S}
/-- SixHands$Reader.refuse(I)V [55] -/
def zR_refuse (v1 : Int32) (h : (Nat → Nat → Int32)) : (Nat → Nat → Int32) := am_b (va_up h 55 (upd (h 55) 1 v1)) fun h1 => am_b (va_up h1 55 (upd (h1 55) 2 (h1 56 4))) fun h2 => h2
set_option maxRecDepth 20000 in
theorem ezR_refuse {d : Nat} (hd : 0 ≤ d) (v1 : Int32) (h : (Nat → Nat → Int32)) : am_Ev 83 Xs am_P d 33 [.ref 55, .int v1] (am_sh, h, hm, g) (none, (am_sh, (zR_refuse v1 h), hm, g)) := by
  obtain ⟨R, hp⟩ : ∃ R, zR_refuse v1 h = R := ⟨_, rfl⟩
  rw [hp]
  unfold zR_refuse at hp
  show am_Rn 83 Xs am_P _ 33 (0, [(0, .ref 55), (1, .int v1)], []) _ _
  obtain ⟨h1, h_h1, hp⟩ := am_b_e hp
  obtain ⟨h2, h_h2, hp⟩ := am_b_e hp
  refine am_Rn.run am_h33 8 (F' := (16, [(0, .ref 55), (1, .int v1)], [])) (S' := (am_sh, h2, hm, g)) (by subst h_h1; subst h_h2; rfl) ?_
  subst hp
  exact am_Rn.ret am_h33 rfl
/-- SixHands$Reader.takeToken(I)V [55] -/
def zR_takeToken (v1 : Int32) (h : (Nat → Nat → Int32)) : Option ((Nat → Nat → Int32)) := if (h 55 1) = 0 then (if (h 56 3) = v1 then ((zT_advance h).bind fun r3 => some r3) else (am_b (zR_refuse 1 h) fun r4 => some r4)) else (some h)
set_option maxRecDepth 20000 in
theorem ezR_takeToken {d : Nat} (hd : 3 ≤ d) (v1 : Int32) (h : (Nat → Nat → Int32)) (R : (Nat → Nat → Int32)) (hp : zR_takeToken v1 h = some R) : am_Ev 83 Xs am_P d 38 [.ref 55, .int v1] (am_sh, h, hm, g) (none, (am_sh, R, hm, g)) := by
  obtain ⟨d, rfl⟩ : ∃ k, d = k + 1 := ⟨d - 1, by omega⟩
  unfold zR_takeToken at hp
  show am_Rn 83 Xs am_P _ 38 (0, [(0, .ref 55), (1, .int v1)], []) _ _
  refine am_Rn.run am_h38 2 (F' := (4, [(0, .ref 55), (1, .int v1)], [.int (h 55 1)])) (S' := (am_sh, h, hm, g)) rfl ?_
  refine am_Rn.ite am_h38 (c := (h 55 1) = 0) (t := 8) (f := 7) (lv := [(0, .ref 55), (1, .int v1)]) (st := []) (S' := (am_sh, h, hm, g)) rfl hp (fun hc1 hp => ?_) (fun hc1 hp => ?_)
  · refine am_Rn.run am_h38 4 (F' := (16, [(0, .ref 55), (1, .int v1)], [.int v1, .int (h 56 3)])) (S' := (am_sh, h, hm, g)) rfl ?_
    refine am_Rn.ite am_h38 (c := (h 56 3) = v1) (t := 27) (f := 19) (lv := [(0, .ref 55), (1, .int v1)]) (st := []) (S' := (am_sh, h, hm, g)) rfl hp (fun hc2 hp => ?_) (fun hc2 hp => ?_)
    · refine am_Rn.run am_h38 2 (F' := (31, [(0, .ref 55), (1, .int v1)], [.ref 56])) (S' := (am_sh, h, hm, g)) rfl ?_
      obtain ⟨r3, h_r3, hp⟩ := am_bind hp
      refine am_Rn.call am_h38 (mj := 94) (As := [.ref 56]) (F' := (34, [(0, .ref 55), (1, .int v1)], [])) (M' := am_m94) (r := none) (S1 := (am_sh, r3, hm, g)) rfl am_h94 rfl (ezT_advance (by omega) h _ h_r3) ?_
      cases hp
      exact am_Rn.ret am_h38 rfl
    · refine am_Rn.run am_h38 2 (F' := (21, [(0, .ref 55), (1, .int v1)], [.int 1, .ref 55])) (S' := (am_sh, h, hm, g)) rfl ?_
      obtain ⟨r4, h_r4, hp⟩ := am_b_e hp
      refine am_Rn.call am_h38 (mj := 33) (As := [.ref 55, .int 1]) (F' := (24, [(0, .ref 55), (1, .int v1)], [])) (M' := am_m33) (r := none) (S1 := (am_sh, r4, hm, g)) rfl am_h33 rfl (by subst h_r4; exact (ezR_refuse (by omega) 1 h)) ?_
      refine am_Rn.run am_h38 1 (F' := (34, [(0, .ref 55), (1, .int v1)], [])) (S' := (am_sh, r4, hm, g)) rfl ?_
      cases hp
      exact am_Rn.ret am_h38 rfl
  · cases hp
    exact am_Rn.ret am_h38 rfl
/-- SixHands$Reader.takeNumber(I)I [55] -/
def zR_takeNumber (v1 : Int32) (h : (Nat → Nat → Int32)) : Option (Int32 × (Nat → Nat → Int32)) := am_b (h 56 5) fun x1 => if (h 55 1) = 0 then (if (h 56 3) = 35 then (if v1 < x1 then (am_b (zR_refuse 2 h) fun r5 => some ((x1, r5))) else ((zT_advance h).bind fun r6 => some ((x1, r6)))) else (am_b (zR_refuse 1 h) fun r7 => some ((x1, r7)))) else (some ((0, h)))
set_option maxRecDepth 20000 in
theorem ezR_takeNumber {d : Nat} (hd : 3 ≤ d) (v1 : Int32) (h : (Nat → Nat → Int32)) (R : Int32 × (Nat → Nat → Int32)) (hp : zR_takeNumber v1 h = some R) : am_Ev 83 Xs am_P d 37 [.ref 55, .int v1] (am_sh, h, hm, g) (some (.int R.1), (am_sh, R.2, hm, g)) := by
  obtain ⟨d, rfl⟩ : ∃ k, d = k + 1 := ⟨d - 1, by omega⟩
  unfold zR_takeNumber at hp
  show am_Rn 83 Xs am_P _ 37 (0, [(0, .ref 55), (1, .int v1)], []) _ _
  obtain ⟨x1, h_x1, hp⟩ := am_b_e hp
  refine am_Rn.run am_h37 6 (F' := (12, [(2, .int x1), (0, .ref 55), (1, .int v1)], [.int (h 55 1)])) (S' := (am_sh, h, hm, g)) (by subst h_x1; rfl) ?_
  refine am_Rn.ite am_h37 (c := (h 55 1) = 0) (t := 17) (f := 15) (lv := [(2, .int x1), (0, .ref 55), (1, .int v1)]) (st := []) (S' := (am_sh, h, hm, g)) rfl hp (fun hc2 hp => ?_) (fun hc2 hp => ?_)
  · refine am_Rn.run am_h37 4 (F' := (26, [(2, .int x1), (0, .ref 55), (1, .int v1)], [.int 35, .int (h 56 3)])) (S' := (am_sh, h, hm, g)) rfl ?_
    refine am_Rn.ite am_h37 (c := (h 56 3) = 35) (t := 37) (f := 29) (lv := [(2, .int x1), (0, .ref 55), (1, .int v1)]) (st := []) (S' := (am_sh, h, hm, g)) rfl hp (fun hc3 hp => ?_) (fun hc3 hp => ?_)
    · refine am_Rn.run am_h37 2 (F' := (39, [(2, .int x1), (0, .ref 55), (1, .int v1)], [.int v1, .int x1])) (S' := (am_sh, h, hm, g)) rfl ?_
      refine am_Rn.ite am_h37 (c := v1 < x1) (t := 42) (f := 50) (lv := [(2, .int x1), (0, .ref 55), (1, .int v1)]) (st := []) (S' := (am_sh, h, hm, g)) rfl hp (fun hc4 hp => ?_) (fun hc4 hp => ?_)
      · refine am_Rn.run am_h37 2 (F' := (44, [(2, .int x1), (0, .ref 55), (1, .int v1)], [.int 2, .ref 55])) (S' := (am_sh, h, hm, g)) rfl ?_
        obtain ⟨r5, h_r5, hp⟩ := am_b_e hp
        refine am_Rn.call am_h37 (mj := 33) (As := [.ref 55, .int 2]) (F' := (47, [(2, .int x1), (0, .ref 55), (1, .int v1)], [])) (M' := am_m33) (r := none) (S1 := (am_sh, r5, hm, g)) rfl am_h33 rfl (by subst h_r5; exact (ezR_refuse (by omega) 2 h)) ?_
        refine am_Rn.run am_h37 2 (F' := (58, [(2, .int x1), (0, .ref 55), (1, .int v1)], [.int x1])) (S' := (am_sh, r5, hm, g)) rfl ?_
        cases hp
        exact am_Rn.ret am_h37 rfl
      · refine am_Rn.run am_h37 2 (F' := (54, [(2, .int x1), (0, .ref 55), (1, .int v1)], [.ref 56])) (S' := (am_sh, h, hm, g)) rfl ?_
        obtain ⟨r6, h_r6, hp⟩ := am_bind hp
        refine am_Rn.call am_h37 (mj := 94) (As := [.ref 56]) (F' := (57, [(2, .int x1), (0, .ref 55), (1, .int v1)], [])) (M' := am_m94) (r := none) (S1 := (am_sh, r6, hm, g)) rfl am_h94 rfl (ezT_advance (by omega) h _ h_r6) ?_
        refine am_Rn.run am_h37 1 (F' := (58, [(2, .int x1), (0, .ref 55), (1, .int v1)], [.int x1])) (S' := (am_sh, r6, hm, g)) rfl ?_
        cases hp
        exact am_Rn.ret am_h37 rfl
    · refine am_Rn.run am_h37 2 (F' := (31, [(2, .int x1), (0, .ref 55), (1, .int v1)], [.int 1, .ref 55])) (S' := (am_sh, h, hm, g)) rfl ?_
      obtain ⟨r7, h_r7, hp⟩ := am_b_e hp
      refine am_Rn.call am_h37 (mj := 33) (As := [.ref 55, .int 1]) (F' := (34, [(2, .int x1), (0, .ref 55), (1, .int v1)], [])) (M' := am_m33) (r := none) (S1 := (am_sh, r7, hm, g)) rfl am_h33 rfl (by subst h_r7; exact (ezR_refuse (by omega) 1 h)) ?_
      refine am_Rn.run am_h37 2 (F' := (58, [(2, .int x1), (0, .ref 55), (1, .int v1)], [.int x1])) (S' := (am_sh, r7, hm, g)) rfl ?_
      cases hp
      exact am_Rn.ret am_h37 rfl
  · refine am_Rn.run am_h37 1 (F' := (16, [(2, .int x1), (0, .ref 55), (1, .int v1)], [.int 0])) (S' := (am_sh, h, hm, g)) rfl ?_
    cases hp
    exact am_Rn.ret am_h37 rfl
/-- SixHands$Text.addClause(III)V ['t'] -/
def zX_addClause (v0 : Nat) (v1 : Int32) (v2 : Int32) (v3 : Int32) (h : (Nat → Nat → Int32)) : Option ((Nat → Nat → Int32)) := if (h v0 0) < 50 then (am_ix 50 (h v0 0) (am_b (va_up h (v0 + 1) (upd (h (v0 + 1)) ((h v0 0).toNatClampNeg) v1)) fun h3 => am_ix 50 (h3 v0 0) (am_b (va_up h3 (v0 + 2) (upd (h3 (v0 + 2)) ((h3 v0 0).toNatClampNeg) v2)) fun h5 => am_ix 50 (h5 v0 0) (am_b (va_up h5 (v0 + 3) (upd (h5 (v0 + 3)) ((h5 v0 0).toNatClampNeg) v3)) fun h7 => am_b (va_up h7 v0 (upd (h7 v0) 0 ((h7 v0 0) + 1))) fun h8 => some h8)))) else (some h)
set_option maxRecDepth 20000 in
theorem ezX_addClause {d : Nat} (hd : 0 ≤ d) (v0 : Nat) (v1 : Int32) (v2 : Int32) (v3 : Int32) (h : (Nat → Nat → Int32)) (R : (Nat → Nat → Int32)) (hk_v0 : zK v0) (hp : zX_addClause v0 v1 v2 v3 h = some R) : am_Ev 83 Xs am_P d 105 [.ref v0, .int v1, .int v2, .int v3] (am_sh, h, hm, g) (none, (am_sh, R, hm, g)) := by
  unfold zX_addClause at hp
  show am_Rn 83 Xs am_P _ 105 (0, [(0, .ref v0), (1, .int v1), (2, .int v2), (3, .int v3)], []) _ _
  refine am_Rn.run am_h105 3 (F' := (6, [(0, .ref v0), (1, .int v1), (2, .int v2), (3, .int v3)], [.int 50, .int (h v0 0)])) (S' := (am_sh, h, hm, g)) (by rcases hk_v0 with rfl | rfl | rfl | rfl | rfl <;> rfl) ?_
  refine am_Rn.ite am_h105 (c := (h v0 0) < 50) (t := 9) (f := 49) (lv := [(0, .ref v0), (1, .int v1), (2, .int v2), (3, .int v3)]) (st := []) (S' := (am_sh, h, hm, g)) (by rcases hk_v0 with rfl | rfl | rfl | rfl | rfl <;> rfl) hp (fun hc1 hp => ?_) (fun hc1 hp => ?_)
  · refine am_Rn.run am_h105 5 (F' := (18, [(0, .ref v0), (1, .int v1), (2, .int v2), (3, .int v3)], [.int v1, .int (h v0 0), .ref (v0 + 1)])) (S' := (am_sh, h, hm, g)) (by rcases hk_v0 with rfl | rfl | rfl | rfl | rfl <;> rfl) ?_
    obtain ⟨hn2, hp⟩ := am_ix_e hp
    obtain ⟨h3, h_h3, hp⟩ := am_b_e hp
    refine am_Rn.stepG am_h105 (c := (h v0 0) < 0 ∨ 50 ≤ (h v0 0).toNatClampNeg) (F' := (19, [(0, .ref v0), (1, .int v1), (2, .int v2), (3, .int v3)], [])) (S' := (am_sh, h3, hm, g)) (by subst h_h3; rcases hk_v0 with rfl | rfl | rfl | rfl | rfl <;> rfl) hn2 ?_
    refine am_Rn.run am_h105 5 (F' := (28, [(0, .ref v0), (1, .int v1), (2, .int v2), (3, .int v3)], [.int v2, .int (h3 v0 0), .ref (v0 + 2)])) (S' := (am_sh, h3, hm, g)) (by rcases hk_v0 with rfl | rfl | rfl | rfl | rfl <;> rfl) ?_
    obtain ⟨hn4, hp⟩ := am_ix_e hp
    obtain ⟨h5, h_h5, hp⟩ := am_b_e hp
    refine am_Rn.stepG am_h105 (c := (h3 v0 0) < 0 ∨ 50 ≤ (h3 v0 0).toNatClampNeg) (F' := (29, [(0, .ref v0), (1, .int v1), (2, .int v2), (3, .int v3)], [])) (S' := (am_sh, h5, hm, g)) (by subst h_h5; rcases hk_v0 with rfl | rfl | rfl | rfl | rfl <;> rfl) hn4 ?_
    refine am_Rn.run am_h105 5 (F' := (38, [(0, .ref v0), (1, .int v1), (2, .int v2), (3, .int v3)], [.int v3, .int (h5 v0 0), .ref (v0 + 3)])) (S' := (am_sh, h5, hm, g)) (by rcases hk_v0 with rfl | rfl | rfl | rfl | rfl <;> rfl) ?_
    obtain ⟨hn6, hp⟩ := am_ix_e hp
    obtain ⟨h7, h_h7, hp⟩ := am_b_e hp
    refine am_Rn.stepG am_h105 (c := (h5 v0 0) < 0 ∨ 50 ≤ (h5 v0 0).toNatClampNeg) (F' := (39, [(0, .ref v0), (1, .int v1), (2, .int v2), (3, .int v3)], [])) (S' := (am_sh, h7, hm, g)) (by subst h_h7; rcases hk_v0 with rfl | rfl | rfl | rfl | rfl <;> rfl) hn6 ?_
    obtain ⟨h8, h_h8, hp⟩ := am_b_e hp
    refine am_Rn.run am_h105 6 (F' := (49, [(0, .ref v0), (1, .int v1), (2, .int v2), (3, .int v3)], [])) (S' := (am_sh, h8, hm, g)) (by subst h_h8; rcases hk_v0 with rfl | rfl | rfl | rfl | rfl <;> rfl) ?_
    cases hp
    exact am_Rn.ret am_h105 (by rcases hk_v0 with rfl | rfl | rfl | rfl | rfl <;> rfl)
  · cases hp
    exact am_Rn.ret am_h105 (by rcases hk_v0 with rfl | rfl | rfl | rfl | rfl <;> rfl)
/-- SixHands$Reader.readDeed(LSixHands$Text;I)V [55, 't'] -/
def zR_readDeed_J81 (v1 : Nat) (v2 : Int32) (v3 : Int32) (v4 : Int32) (h : (Nat → Nat → Int32)) : Option ((Nat → Nat → Int32)) := (zR_takeToken 34 h).bind fun r7 => (zX_addClause v1 v2 v3 v4 r7).bind fun r8 => some r8
set_option maxRecDepth 20000 in
theorem ezR_readDeed_J81 {d : Nat} (hd : 4 ≤ d) (R : (Nat → Nat → Int32)) (v1 : Nat) (v2 : Int32) (v3 : Int32) (v4 : Int32) (h : (Nat → Nat → Int32)) (hk_v1 : zK v1) (hp : zR_readDeed_J81 v1 v2 v3 v4 h = some R) : am_Rn 83 Xs am_P d 36 (81, [(0, .ref 55), (1, .ref v1), (2, .int v2), (3, .int v3), (4, .int v4)], []) (am_sh, h, hm, g) (none, (am_sh, R, hm, g)) := by
  obtain ⟨d, rfl⟩ : ∃ k, d = k + 1 := ⟨d - 1, by omega⟩
  unfold zR_readDeed_J81 at hp
  refine am_Rn.run am_h36 2 (F' := (84, [(0, .ref 55), (1, .ref v1), (2, .int v2), (3, .int v3), (4, .int v4)], [.int 34, .ref 55])) (S' := (am_sh, h, hm, g)) (by rcases hk_v1 with rfl | rfl | rfl | rfl | rfl <;> rfl) ?_
  obtain ⟨r7, h_r7, hp⟩ := am_bind hp
  refine am_Rn.call am_h36 (mj := 38) (As := [.ref 55, .int 34]) (F' := (87, [(0, .ref 55), (1, .ref v1), (2, .int v2), (3, .int v3), (4, .int v4)], [])) (M' := am_m38) (r := none) (S1 := (am_sh, r7, hm, g)) (by rcases hk_v1 with rfl | rfl | rfl | rfl | rfl <;> rfl) am_h38 rfl (ezR_takeToken (by omega) 34 h _ h_r7) ?_
  refine am_Rn.run am_h36 4 (F' := (92, [(0, .ref 55), (1, .ref v1), (2, .int v2), (3, .int v3), (4, .int v4)], [.int v4, .int v3, .int v2, .ref v1])) (S' := (am_sh, r7, hm, g)) (by rcases hk_v1 with rfl | rfl | rfl | rfl | rfl <;> rfl) ?_
  obtain ⟨r8, h_r8, hp⟩ := am_bind hp
  refine am_Rn.call am_h36 (mj := 105) (As := [.ref v1, .int v2, .int v3, .int v4]) (F' := (95, [(0, .ref 55), (1, .ref v1), (2, .int v2), (3, .int v3), (4, .int v4)], [])) (M' := am_m105) (r := none) (S1 := (am_sh, r8, hm, g)) (by rcases hk_v1 with rfl | rfl | rfl | rfl | rfl <;> rfl) am_h105 rfl (ezX_addClause (by omega) v1 v2 v3 v4 r7 _ hk_v1 h_r8) ?_
  cases hp
  exact am_Rn.ret am_h36 (by rcases hk_v1 with rfl | rfl | rfl | rfl | rfl <;> rfl)
def zR_readDeed_J76 (v1 : Nat) (v2 : Int32) (v3 : Int32) (s1 : Int32) (h : (Nat → Nat → Int32)) : Option ((Nat → Nat → Int32)) := (zR_takeNumber s1 h).bind fun r6 => zR_readDeed_J81 v1 v2 v3 r6.1 r6.2
set_option maxRecDepth 20000 in
theorem ezR_readDeed_J76 {d : Nat} (hd : 4 ≤ d) (R : (Nat → Nat → Int32)) (v1 : Nat) (v2 : Int32) (v3 : Int32) (s1 : Int32) (h : (Nat → Nat → Int32)) (hk_v1 : zK v1) (hp : zR_readDeed_J76 v1 v2 v3 s1 h = some R) : am_Rn 83 Xs am_P d 36 (76, [(0, .ref 55), (1, .ref v1), (2, .int v2), (3, .int v3)], [.int s1, .ref 55]) (am_sh, h, hm, g) (none, (am_sh, R, hm, g)) := by
  obtain ⟨d, rfl⟩ : ∃ k, d = k + 1 := ⟨d - 1, by omega⟩
  unfold zR_readDeed_J76 at hp
  obtain ⟨r6, h_r6, hp⟩ := am_bind hp
  refine am_Rn.call am_h36 (mj := 37) (As := [.ref 55, .int s1]) (F' := (79, [(0, .ref 55), (1, .ref v1), (2, .int v2), (3, .int v3)], [])) (M' := am_m37) (r := some (.int r6.1)) (S1 := (am_sh, r6.2, hm, g)) (by rcases hk_v1 with rfl | rfl | rfl | rfl | rfl <;> rfl) am_h37 rfl (ezR_takeNumber (by omega) s1 h _ h_r6) ?_
  refine am_Rn.run am_h36 1 (F' := (81, [(4, .int r6.1), (0, .ref 55), (1, .ref v1), (2, .int v2), (3, .int v3)], [])) (S' := (am_sh, r6.2, hm, g)) (by rcases hk_v1 with rfl | rfl | rfl | rfl | rfl <;> rfl) ?_
  refine am_Rn.sub [1, 2, 3, 4, 0] rfl rfl ?_
  exact ezR_readDeed_J81 hd R v1 v2 v3 r6.1 r6.2 hk_v1 hp
def zR_readDeed_J60 (v1 : Nat) (v2 : Int32) (v3 : Int32) (s1 : Int32) (h : (Nat → Nat → Int32)) : Option ((Nat → Nat → Int32)) := (zR_takeToken s1 h).bind fun r4 => if v2 = 9 then (zR_readDeed_J76 v1 v2 v3 5 r4) else (zR_readDeed_J76 v1 v2 v3 7 r4)
set_option maxRecDepth 20000 in
theorem ezR_readDeed_J60 {d : Nat} (hd : 4 ≤ d) (R : (Nat → Nat → Int32)) (v1 : Nat) (v2 : Int32) (v3 : Int32) (s1 : Int32) (h : (Nat → Nat → Int32)) (hk_v1 : zK v1) (hp : zR_readDeed_J60 v1 v2 v3 s1 h = some R) : am_Rn 83 Xs am_P d 36 (60, [(0, .ref 55), (1, .ref v1), (2, .int v2), (3, .int v3)], [.int s1, .ref 55]) (am_sh, h, hm, g) (none, (am_sh, R, hm, g)) := by
  obtain ⟨d, rfl⟩ : ∃ k, d = k + 1 := ⟨d - 1, by omega⟩
  unfold zR_readDeed_J60 at hp
  obtain ⟨r4, h_r4, hp⟩ := am_bind hp
  refine am_Rn.call am_h36 (mj := 38) (As := [.ref 55, .int s1]) (F' := (63, [(0, .ref 55), (1, .ref v1), (2, .int v2), (3, .int v3)], [])) (M' := am_m38) (r := none) (S1 := (am_sh, r4, hm, g)) (by rcases hk_v1 with rfl | rfl | rfl | rfl | rfl <;> rfl) am_h38 rfl (ezR_takeToken (by omega) s1 h _ h_r4) ?_
  refine am_Rn.run am_h36 3 (F' := (67, [(0, .ref 55), (1, .ref v1), (2, .int v2), (3, .int v3)], [.int 9, .int v2, .ref 55])) (S' := (am_sh, r4, hm, g)) (by rcases hk_v1 with rfl | rfl | rfl | rfl | rfl <;> rfl) ?_
  refine am_Rn.ite am_h36 (c := v2 = 9) (t := 70) (f := 74) (lv := [(0, .ref 55), (1, .ref v1), (2, .int v2), (3, .int v3)]) (st := [.ref 55]) (S' := (am_sh, r4, hm, g)) (by rcases hk_v1 with rfl | rfl | rfl | rfl | rfl <;> rfl) hp (fun hc5 hp => ?_) (fun hc5 hp => ?_)
  · refine am_Rn.run am_h36 2 (F' := (76, [(0, .ref 55), (1, .ref v1), (2, .int v2), (3, .int v3)], [.int 5, .ref 55])) (S' := (am_sh, r4, hm, g)) (by rcases hk_v1 with rfl | rfl | rfl | rfl | rfl <;> rfl) ?_
    exact ezR_readDeed_J76 hd R v1 v2 v3 5 r4 hk_v1 hp
  · refine am_Rn.run am_h36 1 (F' := (76, [(0, .ref 55), (1, .ref v1), (2, .int v2), (3, .int v3)], [.int 7, .ref 55])) (S' := (am_sh, r4, hm, g)) (by rcases hk_v1 with rfl | rfl | rfl | rfl | rfl <;> rfl) ?_
    exact ezR_readDeed_J76 hd R v1 v2 v3 7 r4 hk_v1 hp
def zR_readDeed_J35 (v1 : Nat) (v2 : Int32) (v3 : Int32) (h : (Nat → Nat → Int32)) : Option ((Nat → Nat → Int32)) := if v2 = 6 then (zR_readDeed_J60 v1 v2 v3 11 h) else (if v2 = 8 then (zR_readDeed_J60 v1 v2 v3 18 h) else (zR_readDeed_J60 v1 v2 v3 33 h))
set_option maxRecDepth 20000 in
theorem ezR_readDeed_J35 {d : Nat} (hd : 4 ≤ d) (R : (Nat → Nat → Int32)) (v1 : Nat) (v2 : Int32) (v3 : Int32) (h : (Nat → Nat → Int32)) (hk_v1 : zK v1) (hp : zR_readDeed_J35 v1 v2 v3 h = some R) : am_Rn 83 Xs am_P d 36 (35, [(0, .ref 55), (1, .ref v1), (2, .int v2), (3, .int v3)], []) (am_sh, h, hm, g) (none, (am_sh, R, hm, g)) := by
  obtain ⟨d, rfl⟩ : ∃ k, d = k + 1 := ⟨d - 1, by omega⟩
  unfold zR_readDeed_J35 at hp
  refine am_Rn.run am_h36 3 (F' := (39, [(0, .ref 55), (1, .ref v1), (2, .int v2), (3, .int v3)], [.int 6, .int v2, .ref 55])) (S' := (am_sh, h, hm, g)) (by rcases hk_v1 with rfl | rfl | rfl | rfl | rfl <;> rfl) ?_
  refine am_Rn.ite am_h36 (c := v2 = 6) (t := 42) (f := 47) (lv := [(0, .ref 55), (1, .ref v1), (2, .int v2), (3, .int v3)]) (st := [.ref 55]) (S' := (am_sh, h, hm, g)) (by rcases hk_v1 with rfl | rfl | rfl | rfl | rfl <;> rfl) hp (fun hc3 hp => ?_) (fun hc3 hp => ?_)
  · refine am_Rn.run am_h36 2 (F' := (60, [(0, .ref 55), (1, .ref v1), (2, .int v2), (3, .int v3)], [.int 11, .ref 55])) (S' := (am_sh, h, hm, g)) (by rcases hk_v1 with rfl | rfl | rfl | rfl | rfl <;> rfl) ?_
    exact ezR_readDeed_J60 hd R v1 v2 v3 11 h hk_v1 hp
  · refine am_Rn.run am_h36 2 (F' := (50, [(0, .ref 55), (1, .ref v1), (2, .int v2), (3, .int v3)], [.int 8, .int v2, .ref 55])) (S' := (am_sh, h, hm, g)) (by rcases hk_v1 with rfl | rfl | rfl | rfl | rfl <;> rfl) ?_
    refine am_Rn.ite am_h36 (c := v2 = 8) (t := 53) (f := 58) (lv := [(0, .ref 55), (1, .ref v1), (2, .int v2), (3, .int v3)]) (st := [.ref 55]) (S' := (am_sh, h, hm, g)) (by rcases hk_v1 with rfl | rfl | rfl | rfl | rfl <;> rfl) hp (fun hc9 hp => ?_) (fun hc9 hp => ?_)
    · refine am_Rn.run am_h36 2 (F' := (60, [(0, .ref 55), (1, .ref v1), (2, .int v2), (3, .int v3)], [.int 18, .ref 55])) (S' := (am_sh, h, hm, g)) (by rcases hk_v1 with rfl | rfl | rfl | rfl | rfl <;> rfl) ?_
      exact ezR_readDeed_J60 hd R v1 v2 v3 18 h hk_v1 hp
    · refine am_Rn.run am_h36 1 (F' := (60, [(0, .ref 55), (1, .ref v1), (2, .int v2), (3, .int v3)], [.int 33, .ref 55])) (S' := (am_sh, h, hm, g)) (by rcases hk_v1 with rfl | rfl | rfl | rfl | rfl <;> rfl) ?_
      exact ezR_readDeed_J60 hd R v1 v2 v3 33 h hk_v1 hp
def zR_readDeed_J17 (v1 : Nat) (v2 : Int32) (v3 : Int32) (v4 : Int32) (h : (Nat → Nat → Int32)) : Option ((Nat → Nat → Int32)) := if v2 = 6 then (zR_readDeed_J35 v1 v2 v3 h) else (if v2 = 8 then (zR_readDeed_J35 v1 v2 v3 h) else (if v2 = 9 then (zR_readDeed_J35 v1 v2 v3 h) else (zR_readDeed_J81 v1 v2 v3 v4 h)))
set_option maxRecDepth 20000 in
theorem ezR_readDeed_J17 {d : Nat} (hd : 4 ≤ d) (R : (Nat → Nat → Int32)) (v1 : Nat) (v2 : Int32) (v3 : Int32) (v4 : Int32) (h : (Nat → Nat → Int32)) (hk_v1 : zK v1) (hp : zR_readDeed_J17 v1 v2 v3 v4 h = some R) : am_Rn 83 Xs am_P d 36 (17, [(0, .ref 55), (1, .ref v1), (2, .int v2), (3, .int v3), (4, .int v4)], []) (am_sh, h, hm, g) (none, (am_sh, R, hm, g)) := by
  obtain ⟨d, rfl⟩ : ∃ k, d = k + 1 := ⟨d - 1, by omega⟩
  unfold zR_readDeed_J17 at hp
  refine am_Rn.run am_h36 2 (F' := (20, [(0, .ref 55), (1, .ref v1), (2, .int v2), (3, .int v3), (4, .int v4)], [.int 6, .int v2])) (S' := (am_sh, h, hm, g)) (by rcases hk_v1 with rfl | rfl | rfl | rfl | rfl <;> rfl) ?_
  refine am_Rn.ite am_h36 (c := v2 = 6) (t := 35) (f := 23) (lv := [(0, .ref 55), (1, .ref v1), (2, .int v2), (3, .int v3), (4, .int v4)]) (st := []) (S' := (am_sh, h, hm, g)) (by rcases hk_v1 with rfl | rfl | rfl | rfl | rfl <;> rfl) hp (fun hc2 hp => ?_) (fun hc2 hp => ?_)
  · refine am_Rn.sub [0, 1, 2, 3] rfl rfl ?_
    exact ezR_readDeed_J35 hd R v1 v2 v3 h hk_v1 hp
  · refine am_Rn.run am_h36 2 (F' := (26, [(0, .ref 55), (1, .ref v1), (2, .int v2), (3, .int v3), (4, .int v4)], [.int 8, .int v2])) (S' := (am_sh, h, hm, g)) (by rcases hk_v1 with rfl | rfl | rfl | rfl | rfl <;> rfl) ?_
    refine am_Rn.ite am_h36 (c := v2 = 8) (t := 35) (f := 29) (lv := [(0, .ref 55), (1, .ref v1), (2, .int v2), (3, .int v3), (4, .int v4)]) (st := []) (S' := (am_sh, h, hm, g)) (by rcases hk_v1 with rfl | rfl | rfl | rfl | rfl <;> rfl) hp (fun hc10 hp => ?_) (fun hc10 hp => ?_)
    · refine am_Rn.sub [0, 1, 2, 3] rfl rfl ?_
      exact ezR_readDeed_J35 hd R v1 v2 v3 h hk_v1 hp
    · refine am_Rn.run am_h36 2 (F' := (32, [(0, .ref 55), (1, .ref v1), (2, .int v2), (3, .int v3), (4, .int v4)], [.int 9, .int v2])) (S' := (am_sh, h, hm, g)) (by rcases hk_v1 with rfl | rfl | rfl | rfl | rfl <;> rfl) ?_
      refine am_Rn.ite am_h36 (c := v2 = 9) (t := 35) (f := 81) (lv := [(0, .ref 55), (1, .ref v1), (2, .int v2), (3, .int v3), (4, .int v4)]) (st := []) (S' := (am_sh, h, hm, g)) (by rcases hk_v1 with rfl | rfl | rfl | rfl | rfl <;> rfl) hp (fun hc11 hp => ?_) (fun hc11 hp => ?_)
      · refine am_Rn.sub [0, 1, 2, 3] rfl rfl ?_
        exact ezR_readDeed_J35 hd R v1 v2 v3 h hk_v1 hp
      · exact ezR_readDeed_J81 hd R v1 v2 v3 v4 h hk_v1 hp
def zR_readDeed (v1 : Nat) (v2 : Int32) (h : (Nat → Nat → Int32)) : Option ((Nat → Nat → Int32)) := if v2 = 10 then (zR_readDeed_J17 v1 v2 0 0 h) else ((zR_takeNumber 5 h).bind fun r12 => zR_readDeed_J17 v1 v2 r12.1 0 r12.2)
set_option maxRecDepth 20000 in
theorem ezR_readDeed {d : Nat} (hd : 4 ≤ d) (v1 : Nat) (v2 : Int32) (h : (Nat → Nat → Int32)) (R : (Nat → Nat → Int32)) (hk_v1 : zK v1) (hp : zR_readDeed v1 v2 h = some R) : am_Ev 83 Xs am_P d 36 [.ref 55, .ref v1, .int v2] (am_sh, h, hm, g) (none, (am_sh, R, hm, g)) := by
  obtain ⟨d, rfl⟩ : ∃ k, d = k + 1 := ⟨d - 1, by omega⟩
  unfold zR_readDeed at hp
  show am_Rn 83 Xs am_P _ 36 (0, [(0, .ref 55), (1, .ref v1), (2, .int v2)], []) _ _
  refine am_Rn.run am_h36 6 (F' := (8, [(4, .int 0), (3, .int 0), (0, .ref 55), (1, .ref v1), (2, .int v2)], [.int 10, .int v2])) (S' := (am_sh, h, hm, g)) (by rcases hk_v1 with rfl | rfl | rfl | rfl | rfl <;> rfl) ?_
  refine am_Rn.ite am_h36 (c := v2 = 10) (t := 17) (f := 11) (lv := [(4, .int 0), (3, .int 0), (0, .ref 55), (1, .ref v1), (2, .int v2)]) (st := []) (S' := (am_sh, h, hm, g)) (by rcases hk_v1 with rfl | rfl | rfl | rfl | rfl <;> rfl) hp (fun hc1 hp => ?_) (fun hc1 hp => ?_)
  · refine am_Rn.sub [2, 3, 4, 1, 0] rfl rfl ?_
    exact ezR_readDeed_J17 hd R v1 v2 0 0 h hk_v1 hp
  · refine am_Rn.run am_h36 2 (F' := (13, [(4, .int 0), (3, .int 0), (0, .ref 55), (1, .ref v1), (2, .int v2)], [.int 5, .ref 55])) (S' := (am_sh, h, hm, g)) (by rcases hk_v1 with rfl | rfl | rfl | rfl | rfl <;> rfl) ?_
    obtain ⟨r12, h_r12, hp⟩ := am_bind hp
    refine am_Rn.call am_h36 (mj := 37) (As := [.ref 55, .int 5]) (F' := (16, [(4, .int 0), (3, .int 0), (0, .ref 55), (1, .ref v1), (2, .int v2)], [])) (M' := am_m37) (r := some (.int r12.1)) (S1 := (am_sh, r12.2, hm, g)) (by rcases hk_v1 with rfl | rfl | rfl | rfl | rfl <;> rfl) am_h37 rfl (ezR_takeNumber (by omega) 5 h _ h_r12) ?_
    refine am_Rn.run am_h36 1 (F' := (17, [(3, .int r12.1), (4, .int 0), (0, .ref 55), (1, .ref v1), (2, .int v2)], [])) (S' := (am_sh, r12.2, hm, g)) (by rcases hk_v1 with rfl | rfl | rfl | rfl | rfl <;> rfl) ?_
    refine am_Rn.sub [2, 3, 4, 0, 1] rfl rfl ?_
    exact ezR_readDeed_J17 hd R v1 v2 r12.1 0 r12.2 hk_v1 hp
/-- SixHands$Reader.beginAsk()V [55] -/
def zR_beginAsk (h : (Nat → Nat → Int32)) : (Nat → Nat → Int32) := am_b (va_up h 55 (upd (h 55) 9 1)) fun h1 => am_b (va_up h1 55 (upd (h1 55) 8 0)) fun h2 => am_b (va_up h2 55 (upd (h2 55) 7 0)) fun h3 => h3
set_option maxRecDepth 20000 in
theorem ezR_beginAsk {d : Nat} (hd : 0 ≤ d) (h : (Nat → Nat → Int32)) : am_Ev 83 Xs am_P d 40 [.ref 55] (am_sh, h, hm, g) (none, (am_sh, (zR_beginAsk h), hm, g)) := by
  obtain ⟨R, hp⟩ : ∃ R, zR_beginAsk h = R := ⟨_, rfl⟩
  rw [hp]
  unfold zR_beginAsk at hp
  show am_Rn 83 Xs am_P _ 40 (0, [(0, .ref 55)], []) _ _
  obtain ⟨h1, h_h1, hp⟩ := am_b_e hp
  obtain ⟨h2, h_h2, hp⟩ := am_b_e hp
  obtain ⟨h3, h_h3, hp⟩ := am_b_e hp
  refine am_Rn.run am_h40 9 (F' := (15, [(0, .ref 55)], [])) (S' := (am_sh, h3, hm, g)) (by subst h_h1; subst h_h2; subst h_h3; rfl) ?_
  subst hp
  exact am_Rn.ret am_h40 rfl
/-- SixHands$Reader.push(I)V [55] -/
def zR_push (v1 : Int32) (h : (Nat → Nat → Int32)) : Option ((Nat → Nat → Int32)) := if (h 55 4) < 64 then (am_ix 64 (h 55 4) (am_b (va_up h 58 (upd (h 58) ((h 55 4).toNatClampNeg) v1)) fun h3 => am_b (va_up h3 55 (upd (h3 55) 4 ((h3 55 4) + 1))) fun h4 => some h4)) else (some h)
set_option maxRecDepth 20000 in
theorem ezR_push {d : Nat} (hd : 0 ≤ d) (v1 : Int32) (h : (Nat → Nat → Int32)) (R : (Nat → Nat → Int32)) (hp : zR_push v1 h = some R) : am_Ev 83 Xs am_P d 45 [.ref 55, .int v1] (am_sh, h, hm, g) (none, (am_sh, R, hm, g)) := by
  unfold zR_push at hp
  show am_Rn 83 Xs am_P _ 45 (0, [(0, .ref 55), (1, .int v1)], []) _ _
  refine am_Rn.run am_h45 3 (F' := (6, [(0, .ref 55), (1, .int v1)], [.int 64, .int (h 55 4)])) (S' := (am_sh, h, hm, g)) rfl ?_
  refine am_Rn.ite am_h45 (c := (h 55 4) < 64) (t := 9) (f := 29) (lv := [(0, .ref 55), (1, .int v1)]) (st := []) (S' := (am_sh, h, hm, g)) rfl hp (fun hc1 hp => ?_) (fun hc1 hp => ?_)
  · refine am_Rn.run am_h45 5 (F' := (18, [(0, .ref 55), (1, .int v1)], [.int v1, .int (h 55 4), .ref 58])) (S' := (am_sh, h, hm, g)) rfl ?_
    obtain ⟨hn2, hp⟩ := am_ix_e hp
    obtain ⟨h3, h_h3, hp⟩ := am_b_e hp
    refine am_Rn.stepG am_h45 (c := (h 55 4) < 0 ∨ 64 ≤ (h 55 4).toNatClampNeg) (F' := (19, [(0, .ref 55), (1, .int v1)], [])) (S' := (am_sh, h3, hm, g)) (by subst h_h3; rfl) hn2 ?_
    obtain ⟨h4, h_h4, hp⟩ := am_b_e hp
    refine am_Rn.run am_h45 6 (F' := (29, [(0, .ref 55), (1, .int v1)], [])) (S' := (am_sh, h4, hm, g)) (by subst h_h4; rfl) ?_
    cases hp
    exact am_Rn.ret am_h45 rfl
  · cases hp
    exact am_Rn.ret am_h45 rfl
/-- SixHands$Reader.openOne(I)V [55] -/
def zR_openOne_J41 (v1 : Int32) (h : (Nat → Nat → Int32)) : Option ((Nat → Nat → Int32)) := (zR_push v1 h).bind fun r5 => some r5
set_option maxRecDepth 20000 in
theorem ezR_openOne_J41 {d : Nat} (hd : 1 ≤ d) (R : (Nat → Nat → Int32)) (v1 : Int32) (h : (Nat → Nat → Int32)) (hp : zR_openOne_J41 v1 h = some R) : am_Rn 83 Xs am_P d 44 (41, [(0, .ref 55), (1, .int v1)], []) (am_sh, h, hm, g) (none, (am_sh, R, hm, g)) := by
  obtain ⟨d, rfl⟩ : ∃ k, d = k + 1 := ⟨d - 1, by omega⟩
  unfold zR_openOne_J41 at hp
  refine am_Rn.run am_h44 2 (F' := (43, [(0, .ref 55), (1, .int v1)], [.int v1, .ref 55])) (S' := (am_sh, h, hm, g)) rfl ?_
  obtain ⟨r5, h_r5, hp⟩ := am_bind hp
  refine am_Rn.call am_h44 (mj := 45) (As := [.ref 55, .int v1]) (F' := (46, [(0, .ref 55), (1, .int v1)], [])) (M' := am_m45) (r := none) (S1 := (am_sh, r5, hm, g)) rfl am_h45 rfl (ezR_push (by omega) v1 h _ h_r5) ?_
  cases hp
  exact am_Rn.ret am_h44 rfl
def zR_openOne (v1 : Int32) (h : (Nat → Nat → Int32)) : Option ((Nat → Nat → Int32)) := if (h 55 5) < 8 then (am_b (va_up h 55 (upd (h 55) 5 ((h 55 5) + 1))) fun h2 => if v1 = 31 then (am_b (va_up h2 55 (upd (h2 55) 6 ((h2 55 6) + 1))) fun h4 => zR_openOne_J41 v1 h4) else (zR_openOne_J41 v1 h2)) else (am_b (zR_refuse 3 h) fun r6 => some r6)
set_option maxRecDepth 20000 in
theorem ezR_openOne {d : Nat} (hd : 1 ≤ d) (v1 : Int32) (h : (Nat → Nat → Int32)) (R : (Nat → Nat → Int32)) (hp : zR_openOne v1 h = some R) : am_Ev 83 Xs am_P d 44 [.ref 55, .int v1] (am_sh, h, hm, g) (none, (am_sh, R, hm, g)) := by
  obtain ⟨d, rfl⟩ : ∃ k, d = k + 1 := ⟨d - 1, by omega⟩
  unfold zR_openOne at hp
  show am_Rn 83 Xs am_P _ 44 (0, [(0, .ref 55), (1, .int v1)], []) _ _
  refine am_Rn.run am_h44 3 (F' := (6, [(0, .ref 55), (1, .int v1)], [.int 8, .int (h 55 5)])) (S' := (am_sh, h, hm, g)) rfl ?_
  refine am_Rn.ite am_h44 (c := (h 55 5) < 8) (t := 15) (f := 9) (lv := [(0, .ref 55), (1, .int v1)]) (st := []) (S' := (am_sh, h, hm, g)) rfl hp (fun hc1 hp => ?_) (fun hc1 hp => ?_)
  · obtain ⟨h2, h_h2, hp⟩ := am_b_e hp
    refine am_Rn.run am_h44 8 (F' := (28, [(0, .ref 55), (1, .int v1)], [.int 31, .int v1])) (S' := (am_sh, h2, hm, g)) (by subst h_h2; rfl) ?_
    refine am_Rn.ite am_h44 (c := v1 = 31) (t := 31) (f := 41) (lv := [(0, .ref 55), (1, .int v1)]) (st := []) (S' := (am_sh, h2, hm, g)) rfl hp (fun hc3 hp => ?_) (fun hc3 hp => ?_)
    · obtain ⟨h4, h_h4, hp⟩ := am_b_e hp
      refine am_Rn.run am_h44 6 (F' := (41, [(0, .ref 55), (1, .int v1)], [])) (S' := (am_sh, h4, hm, g)) (by subst h_h4; rfl) ?_
      exact ezR_openOne_J41 hd R v1 h4 hp
    · exact ezR_openOne_J41 hd R v1 h2 hp
  · refine am_Rn.run am_h44 2 (F' := (11, [(0, .ref 55), (1, .int v1)], [.int 3, .ref 55])) (S' := (am_sh, h, hm, g)) rfl ?_
    obtain ⟨r6, h_r6, hp⟩ := am_b_e hp
    refine am_Rn.call am_h44 (mj := 33) (As := [.ref 55, .int 3]) (F' := (14, [(0, .ref 55), (1, .int v1)], [])) (M' := am_m33) (r := none) (S1 := (am_sh, r6, hm, g)) rfl am_h33 rfl (by subst h_r6; exact (ezR_refuse (by omega) 3 h)) ?_
    cases hp
    exact am_Rn.ret am_h44 rfl
/-- SixHands$Text.addCode(I)V ['t'] -/
def zX_addCode (v0 : Nat) (v1 : Int32) (h : (Nat → Nat → Int32)) : Option ((Nat → Nat → Int32)) := if (h v0 4) < 300 then (am_ix 300 (h v0 4) (am_b (va_up h (v0 + 4) (upd (h (v0 + 4)) ((h v0 4).toNatClampNeg) v1)) fun h3 => am_b (va_up h3 v0 (upd (h3 v0) 4 ((h3 v0 4) + 1))) fun h4 => some h4)) else (some h)
set_option maxRecDepth 20000 in
theorem ezX_addCode {d : Nat} (hd : 0 ≤ d) (v0 : Nat) (v1 : Int32) (h : (Nat → Nat → Int32)) (R : (Nat → Nat → Int32)) (hk_v0 : zK v0) (hp : zX_addCode v0 v1 h = some R) : am_Ev 83 Xs am_P d 106 [.ref v0, .int v1] (am_sh, h, hm, g) (none, (am_sh, R, hm, g)) := by
  unfold zX_addCode at hp
  show am_Rn 83 Xs am_P _ 106 (0, [(0, .ref v0), (1, .int v1)], []) _ _
  refine am_Rn.run am_h106 3 (F' := (7, [(0, .ref v0), (1, .int v1)], [.int 300, .int (h v0 4)])) (S' := (am_sh, h, hm, g)) (by rcases hk_v0 with rfl | rfl | rfl | rfl | rfl <;> rfl) ?_
  refine am_Rn.ite am_h106 (c := (h v0 4) < 300) (t := 10) (f := 30) (lv := [(0, .ref v0), (1, .int v1)]) (st := []) (S' := (am_sh, h, hm, g)) (by rcases hk_v0 with rfl | rfl | rfl | rfl | rfl <;> rfl) hp (fun hc1 hp => ?_) (fun hc1 hp => ?_)
  · refine am_Rn.run am_h106 5 (F' := (19, [(0, .ref v0), (1, .int v1)], [.int v1, .int (h v0 4), .ref (v0 + 4)])) (S' := (am_sh, h, hm, g)) (by rcases hk_v0 with rfl | rfl | rfl | rfl | rfl <;> rfl) ?_
    obtain ⟨hn2, hp⟩ := am_ix_e hp
    obtain ⟨h3, h_h3, hp⟩ := am_b_e hp
    refine am_Rn.stepG am_h106 (c := (h v0 4) < 0 ∨ 300 ≤ (h v0 4).toNatClampNeg) (F' := (20, [(0, .ref v0), (1, .int v1)], [])) (S' := (am_sh, h3, hm, g)) (by subst h_h3; rcases hk_v0 with rfl | rfl | rfl | rfl | rfl <;> rfl) hn2 ?_
    obtain ⟨h4, h_h4, hp⟩ := am_b_e hp
    refine am_Rn.run am_h106 6 (F' := (30, [(0, .ref v0), (1, .int v1)], [])) (S' := (am_sh, h4, hm, g)) (by subst h_h4; rcases hk_v0 with rfl | rfl | rfl | rfl | rfl <;> rfl) ?_
    cases hp
    exact am_Rn.ret am_h106 (by rcases hk_v0 with rfl | rfl | rfl | rfl | rfl <;> rfl)
  · cases hp
    exact am_Rn.ret am_h106 (by rcases hk_v0 with rfl | rfl | rfl | rfl | rfl <;> rfl)
/-- SixHands$Reader.isAmong(II)Z [] -/
def zR_isAmong (v0 : Int32) (v1 : Int32) : Int32 := if 20 < v0 then (0) else (if ((v1 >>> (v0 &&& 31)) &&& 1) = 0 then (0) else (1))
set_option maxRecDepth 20000 in
theorem ezR_isAmong {d : Nat} (hd : 0 ≤ d) (v0 : Int32) (v1 : Int32) : am_Ev 83 Xs am_P d 42 [.int v0, .int v1] S (some (.int ((zR_isAmong v0 v1))), S) := by
  obtain ⟨R, hp⟩ : ∃ R, zR_isAmong v0 v1 = R := ⟨_, rfl⟩
  rw [hp]
  unfold zR_isAmong at hp
  show am_Rn 83 Xs am_P _ 42 (0, [(0, .int v0), (1, .int v1)], []) _ _
  refine am_Rn.run am_h42 2 (F' := (3, [(0, .int v0), (1, .int v1)], [.int 20, .int v0])) (S' := S) rfl ?_
  refine am_Rn.ite am_h42 (c := 20 < v0) (t := 18) (f := 6) (lv := [(0, .int v0), (1, .int v1)]) (st := []) (S' := S) rfl hp (fun hc1 hp => ?_) (fun hc1 hp => ?_)
  · refine am_Rn.run am_h42 1 (F' := (19, [(0, .int v0), (1, .int v1)], [.int 0])) (S' := S) rfl ?_
    subst hp
    exact am_Rn.ret am_h42 rfl
  · refine am_Rn.run am_h42 5 (F' := (11, [(0, .int v0), (1, .int v1)], [.int ((v1 >>> (v0 &&& 31)) &&& 1)])) (S' := S) rfl ?_
    refine am_Rn.ite am_h42 (c := ((v1 >>> (v0 &&& 31)) &&& 1) = 0) (t := 18) (f := 14) (lv := [(0, .int v0), (1, .int v1)]) (st := []) (S' := S) rfl hp (fun hc2 hp => ?_) (fun hc2 hp => ?_)
    · refine am_Rn.run am_h42 1 (F' := (19, [(0, .int v0), (1, .int v1)], [.int 0])) (S' := S) rfl ?_
      subst hp
      exact am_Rn.ret am_h42 rfl
    · refine am_Rn.run am_h42 2 (F' := (19, [(0, .int v0), (1, .int v1)], [.int 1])) (S' := S) rfl ?_
      subst hp
      exact am_Rn.ret am_h42 rfl
/-- SixHands$Reader.namesOf(I)I [] -/
def zR_namesOf (v0 : Int32) : Int32 := if v0 = 3 then (128000) else (if v0 = 4 then (422912) else (1602560))
set_option maxRecDepth 20000 in
theorem ezR_namesOf {d : Nat} (hd : 0 ≤ d) (v0 : Int32) : am_Ev 83 Xs am_P d 41 [.int v0] S (some (.int ((zR_namesOf v0))), S) := by
  obtain ⟨R, hp⟩ : ∃ R, zR_namesOf v0 = R := ⟨_, rfl⟩
  rw [hp]
  unfold zR_namesOf at hp
  show am_Rn 83 Xs am_P _ 41 (0, [(0, .int v0)], []) _ _
  refine am_Rn.run am_h41 2 (F' := (2, [(0, .int v0)], [.int 3, .int v0])) (S' := S) rfl ?_
  refine am_Rn.ite am_h41 (c := v0 = 3) (t := 5) (f := 10) (lv := [(0, .int v0)]) (st := []) (S' := S) rfl hp (fun hc1 hp => ?_) (fun hc1 hp => ?_)
  · refine am_Rn.run am_h41 2 (F' := (22, [(0, .int v0)], [.int 128000])) (S' := S) rfl ?_
    subst hp
    exact am_Rn.ret am_h41 rfl
  · refine am_Rn.run am_h41 2 (F' := (12, [(0, .int v0)], [.int 4, .int v0])) (S' := S) rfl ?_
    refine am_Rn.ite am_h41 (c := v0 = 4) (t := 15) (f := 20) (lv := [(0, .int v0)]) (st := []) (S' := S) rfl hp (fun hc2 hp => ?_) (fun hc2 hp => ?_)
    · refine am_Rn.run am_h41 2 (F' := (22, [(0, .int v0)], [.int 422912])) (S' := S) rfl ?_
      subst hp
      exact am_Rn.ret am_h41 rfl
    · refine am_Rn.run am_h41 1 (F' := (22, [(0, .int v0)], [.int 1602560])) (S' := S) rfl ?_
      subst hp
      exact am_Rn.ret am_h41 rfl
/-- SixHands$Reader.takeOperand(LSixHands$Text;I)V [55, 't'] -/
def zR_takeOperand_J153 (v3 : Int32) (h : (Nat → Nat → Int32)) : Option ((Nat → Nat → Int32)) := if v3 = 2 then (am_b (va_up h 55 (upd (h 55) 9 1)) fun h6 => some h6) else (am_b (va_up h 55 (upd (h 55) 9 0)) fun h7 => some h7)
set_option maxRecDepth 20000 in
theorem ezR_takeOperand_J153 {d : Nat} (hd : 2 ≤ d) (R : (Nat → Nat → Int32)) (v3 : Int32) (h : (Nat → Nat → Int32)) (hp : zR_takeOperand_J153 v3 h = some R) : am_Rn 83 Xs am_P d 43 (153, [(0, .ref 55), (3, .int v3)], []) (am_sh, h, hm, g) (none, (am_sh, R, hm, g)) := by
  obtain ⟨d, rfl⟩ : ∃ k, d = k + 1 := ⟨d - 1, by omega⟩
  unfold zR_takeOperand_J153 at hp
  refine am_Rn.run am_h43 3 (F' := (156, [(0, .ref 55), (3, .int v3)], [.int 2, .int v3, .ref 55])) (S' := (am_sh, h, hm, g)) rfl ?_
  refine am_Rn.ite am_h43 (c := v3 = 2) (t := 159) (f := 163) (lv := [(0, .ref 55), (3, .int v3)]) (st := [.ref 55]) (S' := (am_sh, h, hm, g)) rfl hp (fun hc5 hp => ?_) (fun hc5 hp => ?_)
  · obtain ⟨h6, h_h6, hp⟩ := am_b_e hp
    refine am_Rn.run am_h43 3 (F' := (167, [(0, .ref 55), (3, .int v3)], [])) (S' := (am_sh, h6, hm, g)) (by subst h_h6; rfl) ?_
    cases hp
    exact am_Rn.ret am_h43 rfl
  · obtain ⟨h7, h_h7, hp⟩ := am_b_e hp
    refine am_Rn.run am_h43 2 (F' := (167, [(0, .ref 55), (3, .int v3)], [])) (S' := (am_sh, h7, hm, g)) (by subst h_h7; rfl) ?_
    cases hp
    exact am_Rn.ret am_h43 rfl
def zR_takeOperand_J45 (v3 : Int32) (s1 : Int32) (h : (Nat → Nat → Int32)) : Option ((Nat → Nat → Int32)) := (zR_openOne s1 h).bind fun r4 => zR_takeOperand_J153 v3 r4
set_option maxRecDepth 20000 in
theorem ezR_takeOperand_J45 {d : Nat} (hd : 2 ≤ d) (R : (Nat → Nat → Int32)) (v3 : Int32) (s1 : Int32) (h : (Nat → Nat → Int32)) (hp : zR_takeOperand_J45 v3 s1 h = some R) : am_Rn 83 Xs am_P d 43 (45, [(0, .ref 55), (3, .int v3)], [.int s1, .ref 55]) (am_sh, h, hm, g) (none, (am_sh, R, hm, g)) := by
  obtain ⟨d, rfl⟩ : ∃ k, d = k + 1 := ⟨d - 1, by omega⟩
  unfold zR_takeOperand_J45 at hp
  obtain ⟨r4, h_r4, hp⟩ := am_bind hp
  refine am_Rn.call am_h43 (mj := 44) (As := [.ref 55, .int s1]) (F' := (48, [(0, .ref 55), (3, .int v3)], [])) (M' := am_m44) (r := none) (S1 := (am_sh, r4, hm, g)) rfl am_h44 rfl (ezR_openOne (by omega) s1 h _ h_r4) ?_
  refine am_Rn.run am_h43 1 (F' := (153, [(0, .ref 55), (3, .int v3)], [])) (S' := (am_sh, r4, hm, g)) rfl ?_
  exact ezR_takeOperand_J153 hd R v3 r4 hp
def zR_takeOperand_J32 (v3 : Int32) (h : (Nat → Nat → Int32)) : Option ((Nat → Nat → Int32)) := if v3 = 28 then (zR_takeOperand_J45 v3 38 h) else (zR_takeOperand_J45 v3 v3 h)
set_option maxRecDepth 20000 in
theorem ezR_takeOperand_J32 {d : Nat} (hd : 2 ≤ d) (R : (Nat → Nat → Int32)) (v3 : Int32) (h : (Nat → Nat → Int32)) (hp : zR_takeOperand_J32 v3 h = some R) : am_Rn 83 Xs am_P d 43 (32, [(0, .ref 55), (3, .int v3)], []) (am_sh, h, hm, g) (none, (am_sh, R, hm, g)) := by
  obtain ⟨d, rfl⟩ : ∃ k, d = k + 1 := ⟨d - 1, by omega⟩
  unfold zR_takeOperand_J32 at hp
  refine am_Rn.run am_h43 3 (F' := (36, [(0, .ref 55), (3, .int v3)], [.int 28, .int v3, .ref 55])) (S' := (am_sh, h, hm, g)) rfl ?_
  refine am_Rn.ite am_h43 (c := v3 = 28) (t := 39) (f := 44) (lv := [(0, .ref 55), (3, .int v3)]) (st := [.ref 55]) (S' := (am_sh, h, hm, g)) rfl hp (fun hc3 hp => ?_) (fun hc3 hp => ?_)
  · refine am_Rn.run am_h43 2 (F' := (45, [(0, .ref 55), (3, .int v3)], [.int 38, .ref 55])) (S' := (am_sh, h, hm, g)) rfl ?_
    exact ezR_takeOperand_J45 hd R v3 38 h hp
  · refine am_Rn.run am_h43 1 (F' := (45, [(0, .ref 55), (3, .int v3)], [.int v3, .ref 55])) (S' := (am_sh, h, hm, g)) rfl ?_
    exact ezR_takeOperand_J45 hd R v3 v3 h hp
def zR_takeOperand_J78 (v1 : Nat) (v2 : Int32) (v3 : Int32) (h : (Nat → Nat → Int32)) : Option ((Nat → Nat → Int32)) := if v3 = 35 then ((zX_addCode v1 (h 56 5) h).bind fun r15 => am_b (va_up r15 55 (upd (r15 55) 7 1)) fun h16 => zR_takeOperand_J153 v3 h16) else (am_b (zR_isAmong v3 2094080) fun r17 => if r17 = 0 then (am_b (zR_refuse 1 h) fun r19 => zR_takeOperand_J153 v3 r19) else (am_b (zR_namesOf v2) fun r20 => am_b (zR_isAmong v3 r20) fun r21 => if r21 = 0 then (am_b (zR_refuse 5 h) fun r23 => zR_takeOperand_J153 v3 r23) else ((zX_addCode v1 (10000 + v3) h).bind fun r24 => am_b (va_up r24 55 (upd (r24 55) 7 1)) fun h25 => zR_takeOperand_J153 v3 h25)))
set_option maxRecDepth 20000 in
theorem ezR_takeOperand_J78 {d : Nat} (hd : 2 ≤ d) (R : (Nat → Nat → Int32)) (v1 : Nat) (v2 : Int32) (v3 : Int32) (h : (Nat → Nat → Int32)) (hk_v1 : zK v1) (hp : zR_takeOperand_J78 v1 v2 v3 h = some R) : am_Rn 83 Xs am_P d 43 (78, [(0, .ref 55), (1, .ref v1), (2, .int v2), (3, .int v3)], []) (am_sh, h, hm, g) (none, (am_sh, R, hm, g)) := by
  obtain ⟨d, rfl⟩ : ∃ k, d = k + 1 := ⟨d - 1, by omega⟩
  unfold zR_takeOperand_J78 at hp
  refine am_Rn.run am_h43 2 (F' := (81, [(0, .ref 55), (1, .ref v1), (2, .int v2), (3, .int v3)], [.int 35, .int v3])) (S' := (am_sh, h, hm, g)) (by rcases hk_v1 with rfl | rfl | rfl | rfl | rfl <;> rfl) ?_
  refine am_Rn.ite am_h43 (c := v3 = 35) (t := 84) (f := 103) (lv := [(0, .ref 55), (1, .ref v1), (2, .int v2), (3, .int v3)]) (st := []) (S' := (am_sh, h, hm, g)) (by rcases hk_v1 with rfl | rfl | rfl | rfl | rfl <;> rfl) hp (fun hc14 hp => ?_) (fun hc14 hp => ?_)
  · refine am_Rn.run am_h43 4 (F' := (92, [(0, .ref 55), (1, .ref v1), (2, .int v2), (3, .int v3)], [.int (h 56 5), .ref v1])) (S' := (am_sh, h, hm, g)) (by rcases hk_v1 with rfl | rfl | rfl | rfl | rfl <;> rfl) ?_
    obtain ⟨r15, h_r15, hp⟩ := am_bind hp
    refine am_Rn.call am_h43 (mj := 106) (As := [.ref v1, .int (h 56 5)]) (F' := (95, [(0, .ref 55), (1, .ref v1), (2, .int v2), (3, .int v3)], [])) (M' := am_m106) (r := none) (S1 := (am_sh, r15, hm, g)) (by rcases hk_v1 with rfl | rfl | rfl | rfl | rfl <;> rfl) am_h106 rfl (ezX_addCode (by omega) v1 (h 56 5) h _ hk_v1 h_r15) ?_
    obtain ⟨h16, h_h16, hp⟩ := am_b_e hp
    refine am_Rn.run am_h43 4 (F' := (153, [(0, .ref 55), (1, .ref v1), (2, .int v2), (3, .int v3)], [])) (S' := (am_sh, h16, hm, g)) (by subst h_h16; rcases hk_v1 with rfl | rfl | rfl | rfl | rfl <;> rfl) ?_
    refine am_Rn.sub [0, 3] rfl rfl ?_
    exact ezR_takeOperand_J153 hd R v3 h16 hp
  · refine am_Rn.run am_h43 2 (F' := (106, [(0, .ref 55), (1, .ref v1), (2, .int v2), (3, .int v3)], [.int 2094080, .int v3])) (S' := (am_sh, h, hm, g)) (by rcases hk_v1 with rfl | rfl | rfl | rfl | rfl <;> rfl) ?_
    obtain ⟨r17, h_r17, hp⟩ := am_b_e hp
    refine am_Rn.call am_h43 (mj := 42) (As := [.int v3, .int 2094080]) (F' := (109, [(0, .ref 55), (1, .ref v1), (2, .int v2), (3, .int v3)], [])) (M' := am_m42) (r := some (.int r17)) (S1 := (am_sh, h, hm, g)) (by rcases hk_v1 with rfl | rfl | rfl | rfl | rfl <;> rfl) am_h42 rfl (by subst h_r17; exact (ezR_isAmong (by omega) v3 2094080)) ?_
    refine am_Rn.ite am_h43 (c := r17 = 0) (t := 112) (f := 120) (lv := [(0, .ref 55), (1, .ref v1), (2, .int v2), (3, .int v3)]) (st := []) (S' := (am_sh, h, hm, g)) (by rcases hk_v1 with rfl | rfl | rfl | rfl | rfl <;> rfl) hp (fun hc18 hp => ?_) (fun hc18 hp => ?_)
    · refine am_Rn.run am_h43 2 (F' := (114, [(0, .ref 55), (1, .ref v1), (2, .int v2), (3, .int v3)], [.int 1, .ref 55])) (S' := (am_sh, h, hm, g)) (by rcases hk_v1 with rfl | rfl | rfl | rfl | rfl <;> rfl) ?_
      obtain ⟨r19, h_r19, hp⟩ := am_b_e hp
      refine am_Rn.call am_h43 (mj := 33) (As := [.ref 55, .int 1]) (F' := (117, [(0, .ref 55), (1, .ref v1), (2, .int v2), (3, .int v3)], [])) (M' := am_m33) (r := none) (S1 := (am_sh, r19, hm, g)) (by rcases hk_v1 with rfl | rfl | rfl | rfl | rfl <;> rfl) am_h33 rfl (by subst h_r19; exact (ezR_refuse (by omega) 1 h)) ?_
      refine am_Rn.run am_h43 1 (F' := (153, [(0, .ref 55), (1, .ref v1), (2, .int v2), (3, .int v3)], [])) (S' := (am_sh, r19, hm, g)) (by rcases hk_v1 with rfl | rfl | rfl | rfl | rfl <;> rfl) ?_
      refine am_Rn.sub [0, 3] rfl rfl ?_
      exact ezR_takeOperand_J153 hd R v3 r19 hp
    · refine am_Rn.run am_h43 2 (F' := (122, [(0, .ref 55), (1, .ref v1), (2, .int v2), (3, .int v3)], [.int v2, .int v3])) (S' := (am_sh, h, hm, g)) (by rcases hk_v1 with rfl | rfl | rfl | rfl | rfl <;> rfl) ?_
      obtain ⟨r20, h_r20, hp⟩ := am_b_e hp
      refine am_Rn.call am_h43 (mj := 41) (As := [.int v2]) (F' := (125, [(0, .ref 55), (1, .ref v1), (2, .int v2), (3, .int v3)], [.int v3])) (M' := am_m41) (r := some (.int r20)) (S1 := (am_sh, h, hm, g)) (by rcases hk_v1 with rfl | rfl | rfl | rfl | rfl <;> rfl) am_h41 rfl (by subst h_r20; exact (ezR_namesOf (by omega) v2)) ?_
      obtain ⟨r21, h_r21, hp⟩ := am_b_e hp
      refine am_Rn.call am_h43 (mj := 42) (As := [.int v3, .int r20]) (F' := (128, [(0, .ref 55), (1, .ref v1), (2, .int v2), (3, .int v3)], [])) (M' := am_m42) (r := some (.int r21)) (S1 := (am_sh, h, hm, g)) (by rcases hk_v1 with rfl | rfl | rfl | rfl | rfl <;> rfl) am_h42 rfl (by subst h_r21; exact (ezR_isAmong (by omega) v3 r20)) ?_
      refine am_Rn.ite am_h43 (c := r21 = 0) (t := 131) (f := 139) (lv := [(0, .ref 55), (1, .ref v1), (2, .int v2), (3, .int v3)]) (st := []) (S' := (am_sh, h, hm, g)) (by rcases hk_v1 with rfl | rfl | rfl | rfl | rfl <;> rfl) hp (fun hc22 hp => ?_) (fun hc22 hp => ?_)
      · refine am_Rn.run am_h43 2 (F' := (133, [(0, .ref 55), (1, .ref v1), (2, .int v2), (3, .int v3)], [.int 5, .ref 55])) (S' := (am_sh, h, hm, g)) (by rcases hk_v1 with rfl | rfl | rfl | rfl | rfl <;> rfl) ?_
        obtain ⟨r23, h_r23, hp⟩ := am_b_e hp
        refine am_Rn.call am_h43 (mj := 33) (As := [.ref 55, .int 5]) (F' := (136, [(0, .ref 55), (1, .ref v1), (2, .int v2), (3, .int v3)], [])) (M' := am_m33) (r := none) (S1 := (am_sh, r23, hm, g)) (by rcases hk_v1 with rfl | rfl | rfl | rfl | rfl <;> rfl) am_h33 rfl (by subst h_r23; exact (ezR_refuse (by omega) 5 h)) ?_
        refine am_Rn.run am_h43 1 (F' := (153, [(0, .ref 55), (1, .ref v1), (2, .int v2), (3, .int v3)], [])) (S' := (am_sh, r23, hm, g)) (by rcases hk_v1 with rfl | rfl | rfl | rfl | rfl <;> rfl) ?_
        refine am_Rn.sub [0, 3] rfl rfl ?_
        exact ezR_takeOperand_J153 hd R v3 r23 hp
      · refine am_Rn.run am_h43 4 (F' := (145, [(0, .ref 55), (1, .ref v1), (2, .int v2), (3, .int v3)], [.int (10000 + v3), .ref v1])) (S' := (am_sh, h, hm, g)) (by rcases hk_v1 with rfl | rfl | rfl | rfl | rfl <;> rfl) ?_
        obtain ⟨r24, h_r24, hp⟩ := am_bind hp
        refine am_Rn.call am_h43 (mj := 106) (As := [.ref v1, .int (10000 + v3)]) (F' := (148, [(0, .ref 55), (1, .ref v1), (2, .int v2), (3, .int v3)], [])) (M' := am_m106) (r := none) (S1 := (am_sh, r24, hm, g)) (by rcases hk_v1 with rfl | rfl | rfl | rfl | rfl <;> rfl) am_h106 rfl (ezX_addCode (by omega) v1 (10000 + v3) h _ hk_v1 h_r24) ?_
        obtain ⟨h25, h_h25, hp⟩ := am_b_e hp
        refine am_Rn.run am_h43 3 (F' := (153, [(0, .ref 55), (1, .ref v1), (2, .int v2), (3, .int v3)], [])) (S' := (am_sh, h25, hm, g)) (by subst h_h25; rcases hk_v1 with rfl | rfl | rfl | rfl | rfl <;> rfl) ?_
        refine am_Rn.sub [0, 3] rfl rfl ?_
        exact ezR_takeOperand_J153 hd R v3 h25 hp
def zR_takeOperand_J51 (v1 : Nat) (v2 : Int32) (v3 : Int32) (h : (Nat → Nat → Int32)) : Option ((Nat → Nat → Int32)) := if v3 = 35 then (if 9999 < (h 56 5) then (am_b (zR_refuse 2 h) fun r13 => zR_takeOperand_J153 v3 r13) else (zR_takeOperand_J78 v1 v2 v3 h)) else (zR_takeOperand_J78 v1 v2 v3 h)
set_option maxRecDepth 20000 in
theorem ezR_takeOperand_J51 {d : Nat} (hd : 2 ≤ d) (R : (Nat → Nat → Int32)) (v1 : Nat) (v2 : Int32) (v3 : Int32) (h : (Nat → Nat → Int32)) (hk_v1 : zK v1) (hp : zR_takeOperand_J51 v1 v2 v3 h = some R) : am_Rn 83 Xs am_P d 43 (51, [(0, .ref 55), (1, .ref v1), (2, .int v2), (3, .int v3)], []) (am_sh, h, hm, g) (none, (am_sh, R, hm, g)) := by
  obtain ⟨d, rfl⟩ : ∃ k, d = k + 1 := ⟨d - 1, by omega⟩
  unfold zR_takeOperand_J51 at hp
  refine am_Rn.run am_h43 2 (F' := (54, [(0, .ref 55), (1, .ref v1), (2, .int v2), (3, .int v3)], [.int 35, .int v3])) (S' := (am_sh, h, hm, g)) (by rcases hk_v1 with rfl | rfl | rfl | rfl | rfl <;> rfl) ?_
  refine am_Rn.ite am_h43 (c := v3 = 35) (t := 57) (f := 78) (lv := [(0, .ref 55), (1, .ref v1), (2, .int v2), (3, .int v3)]) (st := []) (S' := (am_sh, h, hm, g)) (by rcases hk_v1 with rfl | rfl | rfl | rfl | rfl <;> rfl) hp (fun hc11 hp => ?_) (fun hc11 hp => ?_)
  · refine am_Rn.run am_h43 4 (F' := (67, [(0, .ref 55), (1, .ref v1), (2, .int v2), (3, .int v3)], [.int 9999, .int (h 56 5)])) (S' := (am_sh, h, hm, g)) (by rcases hk_v1 with rfl | rfl | rfl | rfl | rfl <;> rfl) ?_
    refine am_Rn.ite am_h43 (c := 9999 < (h 56 5)) (t := 70) (f := 78) (lv := [(0, .ref 55), (1, .ref v1), (2, .int v2), (3, .int v3)]) (st := []) (S' := (am_sh, h, hm, g)) (by rcases hk_v1 with rfl | rfl | rfl | rfl | rfl <;> rfl) hp (fun hc12 hp => ?_) (fun hc12 hp => ?_)
    · refine am_Rn.run am_h43 2 (F' := (72, [(0, .ref 55), (1, .ref v1), (2, .int v2), (3, .int v3)], [.int 2, .ref 55])) (S' := (am_sh, h, hm, g)) (by rcases hk_v1 with rfl | rfl | rfl | rfl | rfl <;> rfl) ?_
      obtain ⟨r13, h_r13, hp⟩ := am_b_e hp
      refine am_Rn.call am_h43 (mj := 33) (As := [.ref 55, .int 2]) (F' := (75, [(0, .ref 55), (1, .ref v1), (2, .int v2), (3, .int v3)], [])) (M' := am_m33) (r := none) (S1 := (am_sh, r13, hm, g)) (by rcases hk_v1 with rfl | rfl | rfl | rfl | rfl <;> rfl) am_h33 rfl (by subst h_r13; exact (ezR_refuse (by omega) 2 h)) ?_
      refine am_Rn.run am_h43 1 (F' := (153, [(0, .ref 55), (1, .ref v1), (2, .int v2), (3, .int v3)], [])) (S' := (am_sh, r13, hm, g)) (by rcases hk_v1 with rfl | rfl | rfl | rfl | rfl <;> rfl) ?_
      refine am_Rn.sub [0, 3] rfl rfl ?_
      exact ezR_takeOperand_J153 hd R v3 r13 hp
    · exact ezR_takeOperand_J78 hd R v1 v2 v3 h hk_v1 hp
  · exact ezR_takeOperand_J78 hd R v1 v2 v3 h hk_v1 hp
def zR_takeOperand (v1 : Nat) (v2 : Int32) (h : (Nat → Nat → Int32)) : Option ((Nat → Nat → Int32)) := am_b (h 56 3) fun x1 => if x1 = 31 then (zR_takeOperand_J32 x1 h) else (if x1 = 28 then (zR_takeOperand_J32 x1 h) else (if x1 = 2 then (if (h 55 9) = 0 then (zR_takeOperand_J51 v1 v2 x1 h) else (zR_takeOperand_J32 x1 h)) else (zR_takeOperand_J51 v1 v2 x1 h)))
set_option maxRecDepth 20000 in
theorem ezR_takeOperand {d : Nat} (hd : 2 ≤ d) (v1 : Nat) (v2 : Int32) (h : (Nat → Nat → Int32)) (R : (Nat → Nat → Int32)) (hk_v1 : zK v1) (hp : zR_takeOperand v1 v2 h = some R) : am_Ev 83 Xs am_P d 43 [.ref 55, .ref v1, .int v2] (am_sh, h, hm, g) (none, (am_sh, R, hm, g)) := by
  obtain ⟨d, rfl⟩ : ∃ k, d = k + 1 := ⟨d - 1, by omega⟩
  unfold zR_takeOperand at hp
  show am_Rn 83 Xs am_P _ 43 (0, [(0, .ref 55), (1, .ref v1), (2, .int v2)], []) _ _
  obtain ⟨x1, h_x1, hp⟩ := am_b_e hp
  refine am_Rn.run am_h43 6 (F' := (11, [(3, .int x1), (0, .ref 55), (1, .ref v1), (2, .int v2)], [.int 31, .int x1])) (S' := (am_sh, h, hm, g)) (by subst h_x1; rcases hk_v1 with rfl | rfl | rfl | rfl | rfl <;> rfl) ?_
  refine am_Rn.ite am_h43 (c := x1 = 31) (t := 32) (f := 14) (lv := [(3, .int x1), (0, .ref 55), (1, .ref v1), (2, .int v2)]) (st := []) (S' := (am_sh, h, hm, g)) (by rcases hk_v1 with rfl | rfl | rfl | rfl | rfl <;> rfl) hp (fun hc2 hp => ?_) (fun hc2 hp => ?_)
  · refine am_Rn.sub [1, 0] rfl rfl ?_
    exact ezR_takeOperand_J32 hd R x1 h hp
  · refine am_Rn.run am_h43 2 (F' := (17, [(3, .int x1), (0, .ref 55), (1, .ref v1), (2, .int v2)], [.int 28, .int x1])) (S' := (am_sh, h, hm, g)) (by rcases hk_v1 with rfl | rfl | rfl | rfl | rfl <;> rfl) ?_
    refine am_Rn.ite am_h43 (c := x1 = 28) (t := 32) (f := 20) (lv := [(3, .int x1), (0, .ref 55), (1, .ref v1), (2, .int v2)]) (st := []) (S' := (am_sh, h, hm, g)) (by rcases hk_v1 with rfl | rfl | rfl | rfl | rfl <;> rfl) hp (fun hc8 hp => ?_) (fun hc8 hp => ?_)
    · refine am_Rn.sub [1, 0] rfl rfl ?_
      exact ezR_takeOperand_J32 hd R x1 h hp
    · refine am_Rn.run am_h43 2 (F' := (22, [(3, .int x1), (0, .ref 55), (1, .ref v1), (2, .int v2)], [.int 2, .int x1])) (S' := (am_sh, h, hm, g)) (by rcases hk_v1 with rfl | rfl | rfl | rfl | rfl <;> rfl) ?_
      refine am_Rn.ite am_h43 (c := x1 = 2) (t := 25) (f := 51) (lv := [(3, .int x1), (0, .ref 55), (1, .ref v1), (2, .int v2)]) (st := []) (S' := (am_sh, h, hm, g)) (by rcases hk_v1 with rfl | rfl | rfl | rfl | rfl <;> rfl) hp (fun hc9 hp => ?_) (fun hc9 hp => ?_)
      · refine am_Rn.run am_h43 2 (F' := (29, [(3, .int x1), (0, .ref 55), (1, .ref v1), (2, .int v2)], [.int (h 55 9)])) (S' := (am_sh, h, hm, g)) (by rcases hk_v1 with rfl | rfl | rfl | rfl | rfl <;> rfl) ?_
        refine am_Rn.ite am_h43 (c := (h 55 9) = 0) (t := 51) (f := 32) (lv := [(3, .int x1), (0, .ref 55), (1, .ref v1), (2, .int v2)]) (st := []) (S' := (am_sh, h, hm, g)) (by rcases hk_v1 with rfl | rfl | rfl | rfl | rfl <;> rfl) hp (fun hc10 hp => ?_) (fun hc10 hp => ?_)
        · refine am_Rn.sub [1, 2, 3, 0] rfl rfl ?_
          exact ezR_takeOperand_J51 hd R v1 v2 x1 h hk_v1 hp
        · refine am_Rn.sub [1, 0] rfl rfl ?_
          exact ezR_takeOperand_J32 hd R x1 h hp
      · refine am_Rn.sub [1, 2, 3, 0] rfl rfl ?_
        exact ezR_takeOperand_J51 hd R v1 v2 x1 h hk_v1 hp
/-- SixHands$Reader.rankOf(I)I [] -/
def zR_rankOf (v0 : Int32) : Int32 := if v0 = 0 then (1) else if v0 = 1 then (2) else if v0 = 2 then (3) else if v0 = 3 then (4) else if v0 = 4 then (4) else if v0 = 5 then (4) else if v0 = 6 then (4) else if v0 = 7 then (4) else if v0 = 8 then (4) else if v0 = 9 then (4) else if v0 = 10 then (4) else if v0 = 11 then (4) else if v0 = 12 then (4) else if v0 = 13 then (4) else if v0 = 14 then (4) else if v0 = 15 then (4) else if v0 = 16 then (4) else if v0 = 17 then (4) else if v0 = 18 then (4) else if v0 = 19 then (4) else if v0 = 20 then (4) else if v0 = 21 then (4) else if v0 = 22 then (4) else if v0 = 23 then (4) else if v0 = 24 then (4) else if v0 = 25 then (4) else if v0 = 26 then (4) else if v0 = 27 then (5) else if v0 = 28 then (5) else if v0 = 29 then (6) else if v0 = 30 then (6) else if v0 = 31 then (0) else if v0 = 32 then (4) else if v0 = 33 then (4) else if v0 = 34 then (1) else if v0 = 35 then (4) else if v0 = 36 then (4) else if v0 = 37 then (4) else if v0 = 38 then (7) else (4)
set_option maxRecDepth 20000 in
theorem ezR_rankOf {d : Nat} (hd : 0 ≤ d) (v0 : Int32) : am_Ev 83 Xs am_P d 49 [.int v0] S (some (.int ((zR_rankOf v0))), S) := by
  obtain ⟨R, hp⟩ : ∃ R, zR_rankOf v0 = R := ⟨_, rfl⟩
  rw [hp]
  unfold zR_rankOf at hp
  show am_Rn 83 Xs am_P _ 49 (0, [(0, .int v0)], []) _ _
  refine am_Rn.run am_h49 1 (F' := (1, [(0, .int v0)], [.int v0])) (S' := S) rfl ?_
  refine am_Rn.step am_h49 (F' := (am_sw v0 0 188 [174, 176, 178, 188, 188, 188, 188, 188, 188, 188, 188, 188, 188, 188, 188, 188, 188, 188, 188, 188, 188, 188, 188, 188, 188, 188, 188, 180, 180, 182, 182, 172, 188, 188, 174, 188, 188, 188, 185], [(0, .int v0)], [])) (S' := S) rfl ?_
  refine am_ite hp (fun hc1 hp => ?_) (fun hc1 hp => ?_)
  · rw [show am_sw v0 0 188 [174, 176, 178, 188, 188, 188, 188, 188, 188, 188, 188, 188, 188, 188, 188, 188, 188, 188, 188, 188, 188, 188, 188, 188, 188, 188, 188, 180, 180, 182, 182, 172, 188, 188, 174, 188, 188, 188, 185] = 174 from by subst hc1; rfl]
    refine am_Rn.run am_h49 1 (F' := (175, [(0, .int v0)], [.int 1])) (S' := S) rfl ?_
    subst hp
    exact am_Rn.ret am_h49 rfl
  refine am_ite hp (fun hc2 hp => ?_) (fun hc2 hp => ?_)
  · rw [show am_sw v0 0 188 [174, 176, 178, 188, 188, 188, 188, 188, 188, 188, 188, 188, 188, 188, 188, 188, 188, 188, 188, 188, 188, 188, 188, 188, 188, 188, 188, 180, 180, 182, 182, 172, 188, 188, 174, 188, 188, 188, 185] = 176 from by subst hc2; rfl]
    refine am_Rn.run am_h49 1 (F' := (177, [(0, .int v0)], [.int 2])) (S' := S) rfl ?_
    subst hp
    exact am_Rn.ret am_h49 rfl
  refine am_ite hp (fun hc3 hp => ?_) (fun hc3 hp => ?_)
  · rw [show am_sw v0 0 188 [174, 176, 178, 188, 188, 188, 188, 188, 188, 188, 188, 188, 188, 188, 188, 188, 188, 188, 188, 188, 188, 188, 188, 188, 188, 188, 188, 180, 180, 182, 182, 172, 188, 188, 174, 188, 188, 188, 185] = 178 from by subst hc3; rfl]
    refine am_Rn.run am_h49 1 (F' := (179, [(0, .int v0)], [.int 3])) (S' := S) rfl ?_
    subst hp
    exact am_Rn.ret am_h49 rfl
  refine am_ite hp (fun hc4 hp => ?_) (fun hc4 hp => ?_)
  · rw [show am_sw v0 0 188 [174, 176, 178, 188, 188, 188, 188, 188, 188, 188, 188, 188, 188, 188, 188, 188, 188, 188, 188, 188, 188, 188, 188, 188, 188, 188, 188, 180, 180, 182, 182, 172, 188, 188, 174, 188, 188, 188, 185] = 188 from by subst hc4; rfl]
    refine am_Rn.run am_h49 1 (F' := (189, [(0, .int v0)], [.int 4])) (S' := S) rfl ?_
    subst hp
    exact am_Rn.ret am_h49 rfl
  refine am_ite hp (fun hc5 hp => ?_) (fun hc5 hp => ?_)
  · rw [show am_sw v0 0 188 [174, 176, 178, 188, 188, 188, 188, 188, 188, 188, 188, 188, 188, 188, 188, 188, 188, 188, 188, 188, 188, 188, 188, 188, 188, 188, 188, 180, 180, 182, 182, 172, 188, 188, 174, 188, 188, 188, 185] = 188 from by subst hc5; rfl]
    refine am_Rn.run am_h49 1 (F' := (189, [(0, .int v0)], [.int 4])) (S' := S) rfl ?_
    subst hp
    exact am_Rn.ret am_h49 rfl
  refine am_ite hp (fun hc6 hp => ?_) (fun hc6 hp => ?_)
  · rw [show am_sw v0 0 188 [174, 176, 178, 188, 188, 188, 188, 188, 188, 188, 188, 188, 188, 188, 188, 188, 188, 188, 188, 188, 188, 188, 188, 188, 188, 188, 188, 180, 180, 182, 182, 172, 188, 188, 174, 188, 188, 188, 185] = 188 from by subst hc6; rfl]
    refine am_Rn.run am_h49 1 (F' := (189, [(0, .int v0)], [.int 4])) (S' := S) rfl ?_
    subst hp
    exact am_Rn.ret am_h49 rfl
  refine am_ite hp (fun hc7 hp => ?_) (fun hc7 hp => ?_)
  · rw [show am_sw v0 0 188 [174, 176, 178, 188, 188, 188, 188, 188, 188, 188, 188, 188, 188, 188, 188, 188, 188, 188, 188, 188, 188, 188, 188, 188, 188, 188, 188, 180, 180, 182, 182, 172, 188, 188, 174, 188, 188, 188, 185] = 188 from by subst hc7; rfl]
    refine am_Rn.run am_h49 1 (F' := (189, [(0, .int v0)], [.int 4])) (S' := S) rfl ?_
    subst hp
    exact am_Rn.ret am_h49 rfl
  refine am_ite hp (fun hc8 hp => ?_) (fun hc8 hp => ?_)
  · rw [show am_sw v0 0 188 [174, 176, 178, 188, 188, 188, 188, 188, 188, 188, 188, 188, 188, 188, 188, 188, 188, 188, 188, 188, 188, 188, 188, 188, 188, 188, 188, 180, 180, 182, 182, 172, 188, 188, 174, 188, 188, 188, 185] = 188 from by subst hc8; rfl]
    refine am_Rn.run am_h49 1 (F' := (189, [(0, .int v0)], [.int 4])) (S' := S) rfl ?_
    subst hp
    exact am_Rn.ret am_h49 rfl
  refine am_ite hp (fun hc9 hp => ?_) (fun hc9 hp => ?_)
  · rw [show am_sw v0 0 188 [174, 176, 178, 188, 188, 188, 188, 188, 188, 188, 188, 188, 188, 188, 188, 188, 188, 188, 188, 188, 188, 188, 188, 188, 188, 188, 188, 180, 180, 182, 182, 172, 188, 188, 174, 188, 188, 188, 185] = 188 from by subst hc9; rfl]
    refine am_Rn.run am_h49 1 (F' := (189, [(0, .int v0)], [.int 4])) (S' := S) rfl ?_
    subst hp
    exact am_Rn.ret am_h49 rfl
  refine am_ite hp (fun hc10 hp => ?_) (fun hc10 hp => ?_)
  · rw [show am_sw v0 0 188 [174, 176, 178, 188, 188, 188, 188, 188, 188, 188, 188, 188, 188, 188, 188, 188, 188, 188, 188, 188, 188, 188, 188, 188, 188, 188, 188, 180, 180, 182, 182, 172, 188, 188, 174, 188, 188, 188, 185] = 188 from by subst hc10; rfl]
    refine am_Rn.run am_h49 1 (F' := (189, [(0, .int v0)], [.int 4])) (S' := S) rfl ?_
    subst hp
    exact am_Rn.ret am_h49 rfl
  refine am_ite hp (fun hc11 hp => ?_) (fun hc11 hp => ?_)
  · rw [show am_sw v0 0 188 [174, 176, 178, 188, 188, 188, 188, 188, 188, 188, 188, 188, 188, 188, 188, 188, 188, 188, 188, 188, 188, 188, 188, 188, 188, 188, 188, 180, 180, 182, 182, 172, 188, 188, 174, 188, 188, 188, 185] = 188 from by subst hc11; rfl]
    refine am_Rn.run am_h49 1 (F' := (189, [(0, .int v0)], [.int 4])) (S' := S) rfl ?_
    subst hp
    exact am_Rn.ret am_h49 rfl
  refine am_ite hp (fun hc12 hp => ?_) (fun hc12 hp => ?_)
  · rw [show am_sw v0 0 188 [174, 176, 178, 188, 188, 188, 188, 188, 188, 188, 188, 188, 188, 188, 188, 188, 188, 188, 188, 188, 188, 188, 188, 188, 188, 188, 188, 180, 180, 182, 182, 172, 188, 188, 174, 188, 188, 188, 185] = 188 from by subst hc12; rfl]
    refine am_Rn.run am_h49 1 (F' := (189, [(0, .int v0)], [.int 4])) (S' := S) rfl ?_
    subst hp
    exact am_Rn.ret am_h49 rfl
  refine am_ite hp (fun hc13 hp => ?_) (fun hc13 hp => ?_)
  · rw [show am_sw v0 0 188 [174, 176, 178, 188, 188, 188, 188, 188, 188, 188, 188, 188, 188, 188, 188, 188, 188, 188, 188, 188, 188, 188, 188, 188, 188, 188, 188, 180, 180, 182, 182, 172, 188, 188, 174, 188, 188, 188, 185] = 188 from by subst hc13; rfl]
    refine am_Rn.run am_h49 1 (F' := (189, [(0, .int v0)], [.int 4])) (S' := S) rfl ?_
    subst hp
    exact am_Rn.ret am_h49 rfl
  refine am_ite hp (fun hc14 hp => ?_) (fun hc14 hp => ?_)
  · rw [show am_sw v0 0 188 [174, 176, 178, 188, 188, 188, 188, 188, 188, 188, 188, 188, 188, 188, 188, 188, 188, 188, 188, 188, 188, 188, 188, 188, 188, 188, 188, 180, 180, 182, 182, 172, 188, 188, 174, 188, 188, 188, 185] = 188 from by subst hc14; rfl]
    refine am_Rn.run am_h49 1 (F' := (189, [(0, .int v0)], [.int 4])) (S' := S) rfl ?_
    subst hp
    exact am_Rn.ret am_h49 rfl
  refine am_ite hp (fun hc15 hp => ?_) (fun hc15 hp => ?_)
  · rw [show am_sw v0 0 188 [174, 176, 178, 188, 188, 188, 188, 188, 188, 188, 188, 188, 188, 188, 188, 188, 188, 188, 188, 188, 188, 188, 188, 188, 188, 188, 188, 180, 180, 182, 182, 172, 188, 188, 174, 188, 188, 188, 185] = 188 from by subst hc15; rfl]
    refine am_Rn.run am_h49 1 (F' := (189, [(0, .int v0)], [.int 4])) (S' := S) rfl ?_
    subst hp
    exact am_Rn.ret am_h49 rfl
  refine am_ite hp (fun hc16 hp => ?_) (fun hc16 hp => ?_)
  · rw [show am_sw v0 0 188 [174, 176, 178, 188, 188, 188, 188, 188, 188, 188, 188, 188, 188, 188, 188, 188, 188, 188, 188, 188, 188, 188, 188, 188, 188, 188, 188, 180, 180, 182, 182, 172, 188, 188, 174, 188, 188, 188, 185] = 188 from by subst hc16; rfl]
    refine am_Rn.run am_h49 1 (F' := (189, [(0, .int v0)], [.int 4])) (S' := S) rfl ?_
    subst hp
    exact am_Rn.ret am_h49 rfl
  refine am_ite hp (fun hc17 hp => ?_) (fun hc17 hp => ?_)
  · rw [show am_sw v0 0 188 [174, 176, 178, 188, 188, 188, 188, 188, 188, 188, 188, 188, 188, 188, 188, 188, 188, 188, 188, 188, 188, 188, 188, 188, 188, 188, 188, 180, 180, 182, 182, 172, 188, 188, 174, 188, 188, 188, 185] = 188 from by subst hc17; rfl]
    refine am_Rn.run am_h49 1 (F' := (189, [(0, .int v0)], [.int 4])) (S' := S) rfl ?_
    subst hp
    exact am_Rn.ret am_h49 rfl
  refine am_ite hp (fun hc18 hp => ?_) (fun hc18 hp => ?_)
  · rw [show am_sw v0 0 188 [174, 176, 178, 188, 188, 188, 188, 188, 188, 188, 188, 188, 188, 188, 188, 188, 188, 188, 188, 188, 188, 188, 188, 188, 188, 188, 188, 180, 180, 182, 182, 172, 188, 188, 174, 188, 188, 188, 185] = 188 from by subst hc18; rfl]
    refine am_Rn.run am_h49 1 (F' := (189, [(0, .int v0)], [.int 4])) (S' := S) rfl ?_
    subst hp
    exact am_Rn.ret am_h49 rfl
  refine am_ite hp (fun hc19 hp => ?_) (fun hc19 hp => ?_)
  · rw [show am_sw v0 0 188 [174, 176, 178, 188, 188, 188, 188, 188, 188, 188, 188, 188, 188, 188, 188, 188, 188, 188, 188, 188, 188, 188, 188, 188, 188, 188, 188, 180, 180, 182, 182, 172, 188, 188, 174, 188, 188, 188, 185] = 188 from by subst hc19; rfl]
    refine am_Rn.run am_h49 1 (F' := (189, [(0, .int v0)], [.int 4])) (S' := S) rfl ?_
    subst hp
    exact am_Rn.ret am_h49 rfl
  refine am_ite hp (fun hc20 hp => ?_) (fun hc20 hp => ?_)
  · rw [show am_sw v0 0 188 [174, 176, 178, 188, 188, 188, 188, 188, 188, 188, 188, 188, 188, 188, 188, 188, 188, 188, 188, 188, 188, 188, 188, 188, 188, 188, 188, 180, 180, 182, 182, 172, 188, 188, 174, 188, 188, 188, 185] = 188 from by subst hc20; rfl]
    refine am_Rn.run am_h49 1 (F' := (189, [(0, .int v0)], [.int 4])) (S' := S) rfl ?_
    subst hp
    exact am_Rn.ret am_h49 rfl
  refine am_ite hp (fun hc21 hp => ?_) (fun hc21 hp => ?_)
  · rw [show am_sw v0 0 188 [174, 176, 178, 188, 188, 188, 188, 188, 188, 188, 188, 188, 188, 188, 188, 188, 188, 188, 188, 188, 188, 188, 188, 188, 188, 188, 188, 180, 180, 182, 182, 172, 188, 188, 174, 188, 188, 188, 185] = 188 from by subst hc21; rfl]
    refine am_Rn.run am_h49 1 (F' := (189, [(0, .int v0)], [.int 4])) (S' := S) rfl ?_
    subst hp
    exact am_Rn.ret am_h49 rfl
  refine am_ite hp (fun hc22 hp => ?_) (fun hc22 hp => ?_)
  · rw [show am_sw v0 0 188 [174, 176, 178, 188, 188, 188, 188, 188, 188, 188, 188, 188, 188, 188, 188, 188, 188, 188, 188, 188, 188, 188, 188, 188, 188, 188, 188, 180, 180, 182, 182, 172, 188, 188, 174, 188, 188, 188, 185] = 188 from by subst hc22; rfl]
    refine am_Rn.run am_h49 1 (F' := (189, [(0, .int v0)], [.int 4])) (S' := S) rfl ?_
    subst hp
    exact am_Rn.ret am_h49 rfl
  refine am_ite hp (fun hc23 hp => ?_) (fun hc23 hp => ?_)
  · rw [show am_sw v0 0 188 [174, 176, 178, 188, 188, 188, 188, 188, 188, 188, 188, 188, 188, 188, 188, 188, 188, 188, 188, 188, 188, 188, 188, 188, 188, 188, 188, 180, 180, 182, 182, 172, 188, 188, 174, 188, 188, 188, 185] = 188 from by subst hc23; rfl]
    refine am_Rn.run am_h49 1 (F' := (189, [(0, .int v0)], [.int 4])) (S' := S) rfl ?_
    subst hp
    exact am_Rn.ret am_h49 rfl
  refine am_ite hp (fun hc24 hp => ?_) (fun hc24 hp => ?_)
  · rw [show am_sw v0 0 188 [174, 176, 178, 188, 188, 188, 188, 188, 188, 188, 188, 188, 188, 188, 188, 188, 188, 188, 188, 188, 188, 188, 188, 188, 188, 188, 188, 180, 180, 182, 182, 172, 188, 188, 174, 188, 188, 188, 185] = 188 from by subst hc24; rfl]
    refine am_Rn.run am_h49 1 (F' := (189, [(0, .int v0)], [.int 4])) (S' := S) rfl ?_
    subst hp
    exact am_Rn.ret am_h49 rfl
  refine am_ite hp (fun hc25 hp => ?_) (fun hc25 hp => ?_)
  · rw [show am_sw v0 0 188 [174, 176, 178, 188, 188, 188, 188, 188, 188, 188, 188, 188, 188, 188, 188, 188, 188, 188, 188, 188, 188, 188, 188, 188, 188, 188, 188, 180, 180, 182, 182, 172, 188, 188, 174, 188, 188, 188, 185] = 188 from by subst hc25; rfl]
    refine am_Rn.run am_h49 1 (F' := (189, [(0, .int v0)], [.int 4])) (S' := S) rfl ?_
    subst hp
    exact am_Rn.ret am_h49 rfl
  refine am_ite hp (fun hc26 hp => ?_) (fun hc26 hp => ?_)
  · rw [show am_sw v0 0 188 [174, 176, 178, 188, 188, 188, 188, 188, 188, 188, 188, 188, 188, 188, 188, 188, 188, 188, 188, 188, 188, 188, 188, 188, 188, 188, 188, 180, 180, 182, 182, 172, 188, 188, 174, 188, 188, 188, 185] = 188 from by subst hc26; rfl]
    refine am_Rn.run am_h49 1 (F' := (189, [(0, .int v0)], [.int 4])) (S' := S) rfl ?_
    subst hp
    exact am_Rn.ret am_h49 rfl
  refine am_ite hp (fun hc27 hp => ?_) (fun hc27 hp => ?_)
  · rw [show am_sw v0 0 188 [174, 176, 178, 188, 188, 188, 188, 188, 188, 188, 188, 188, 188, 188, 188, 188, 188, 188, 188, 188, 188, 188, 188, 188, 188, 188, 188, 180, 180, 182, 182, 172, 188, 188, 174, 188, 188, 188, 185] = 188 from by subst hc27; rfl]
    refine am_Rn.run am_h49 1 (F' := (189, [(0, .int v0)], [.int 4])) (S' := S) rfl ?_
    subst hp
    exact am_Rn.ret am_h49 rfl
  refine am_ite hp (fun hc28 hp => ?_) (fun hc28 hp => ?_)
  · rw [show am_sw v0 0 188 [174, 176, 178, 188, 188, 188, 188, 188, 188, 188, 188, 188, 188, 188, 188, 188, 188, 188, 188, 188, 188, 188, 188, 188, 188, 188, 188, 180, 180, 182, 182, 172, 188, 188, 174, 188, 188, 188, 185] = 180 from by subst hc28; rfl]
    refine am_Rn.run am_h49 1 (F' := (181, [(0, .int v0)], [.int 5])) (S' := S) rfl ?_
    subst hp
    exact am_Rn.ret am_h49 rfl
  refine am_ite hp (fun hc29 hp => ?_) (fun hc29 hp => ?_)
  · rw [show am_sw v0 0 188 [174, 176, 178, 188, 188, 188, 188, 188, 188, 188, 188, 188, 188, 188, 188, 188, 188, 188, 188, 188, 188, 188, 188, 188, 188, 188, 188, 180, 180, 182, 182, 172, 188, 188, 174, 188, 188, 188, 185] = 180 from by subst hc29; rfl]
    refine am_Rn.run am_h49 1 (F' := (181, [(0, .int v0)], [.int 5])) (S' := S) rfl ?_
    subst hp
    exact am_Rn.ret am_h49 rfl
  refine am_ite hp (fun hc30 hp => ?_) (fun hc30 hp => ?_)
  · rw [show am_sw v0 0 188 [174, 176, 178, 188, 188, 188, 188, 188, 188, 188, 188, 188, 188, 188, 188, 188, 188, 188, 188, 188, 188, 188, 188, 188, 188, 188, 188, 180, 180, 182, 182, 172, 188, 188, 174, 188, 188, 188, 185] = 182 from by subst hc30; rfl]
    refine am_Rn.run am_h49 1 (F' := (184, [(0, .int v0)], [.int 6])) (S' := S) rfl ?_
    subst hp
    exact am_Rn.ret am_h49 rfl
  refine am_ite hp (fun hc31 hp => ?_) (fun hc31 hp => ?_)
  · rw [show am_sw v0 0 188 [174, 176, 178, 188, 188, 188, 188, 188, 188, 188, 188, 188, 188, 188, 188, 188, 188, 188, 188, 188, 188, 188, 188, 188, 188, 188, 188, 180, 180, 182, 182, 172, 188, 188, 174, 188, 188, 188, 185] = 182 from by subst hc31; rfl]
    refine am_Rn.run am_h49 1 (F' := (184, [(0, .int v0)], [.int 6])) (S' := S) rfl ?_
    subst hp
    exact am_Rn.ret am_h49 rfl
  refine am_ite hp (fun hc32 hp => ?_) (fun hc32 hp => ?_)
  · rw [show am_sw v0 0 188 [174, 176, 178, 188, 188, 188, 188, 188, 188, 188, 188, 188, 188, 188, 188, 188, 188, 188, 188, 188, 188, 188, 188, 188, 188, 188, 188, 180, 180, 182, 182, 172, 188, 188, 174, 188, 188, 188, 185] = 172 from by subst hc32; rfl]
    refine am_Rn.run am_h49 1 (F' := (173, [(0, .int v0)], [.int 0])) (S' := S) rfl ?_
    subst hp
    exact am_Rn.ret am_h49 rfl
  refine am_ite hp (fun hc33 hp => ?_) (fun hc33 hp => ?_)
  · rw [show am_sw v0 0 188 [174, 176, 178, 188, 188, 188, 188, 188, 188, 188, 188, 188, 188, 188, 188, 188, 188, 188, 188, 188, 188, 188, 188, 188, 188, 188, 188, 180, 180, 182, 182, 172, 188, 188, 174, 188, 188, 188, 185] = 188 from by subst hc33; rfl]
    refine am_Rn.run am_h49 1 (F' := (189, [(0, .int v0)], [.int 4])) (S' := S) rfl ?_
    subst hp
    exact am_Rn.ret am_h49 rfl
  refine am_ite hp (fun hc34 hp => ?_) (fun hc34 hp => ?_)
  · rw [show am_sw v0 0 188 [174, 176, 178, 188, 188, 188, 188, 188, 188, 188, 188, 188, 188, 188, 188, 188, 188, 188, 188, 188, 188, 188, 188, 188, 188, 188, 188, 180, 180, 182, 182, 172, 188, 188, 174, 188, 188, 188, 185] = 188 from by subst hc34; rfl]
    refine am_Rn.run am_h49 1 (F' := (189, [(0, .int v0)], [.int 4])) (S' := S) rfl ?_
    subst hp
    exact am_Rn.ret am_h49 rfl
  refine am_ite hp (fun hc35 hp => ?_) (fun hc35 hp => ?_)
  · rw [show am_sw v0 0 188 [174, 176, 178, 188, 188, 188, 188, 188, 188, 188, 188, 188, 188, 188, 188, 188, 188, 188, 188, 188, 188, 188, 188, 188, 188, 188, 188, 180, 180, 182, 182, 172, 188, 188, 174, 188, 188, 188, 185] = 174 from by subst hc35; rfl]
    refine am_Rn.run am_h49 1 (F' := (175, [(0, .int v0)], [.int 1])) (S' := S) rfl ?_
    subst hp
    exact am_Rn.ret am_h49 rfl
  refine am_ite hp (fun hc36 hp => ?_) (fun hc36 hp => ?_)
  · rw [show am_sw v0 0 188 [174, 176, 178, 188, 188, 188, 188, 188, 188, 188, 188, 188, 188, 188, 188, 188, 188, 188, 188, 188, 188, 188, 188, 188, 188, 188, 188, 180, 180, 182, 182, 172, 188, 188, 174, 188, 188, 188, 185] = 188 from by subst hc36; rfl]
    refine am_Rn.run am_h49 1 (F' := (189, [(0, .int v0)], [.int 4])) (S' := S) rfl ?_
    subst hp
    exact am_Rn.ret am_h49 rfl
  refine am_ite hp (fun hc37 hp => ?_) (fun hc37 hp => ?_)
  · rw [show am_sw v0 0 188 [174, 176, 178, 188, 188, 188, 188, 188, 188, 188, 188, 188, 188, 188, 188, 188, 188, 188, 188, 188, 188, 188, 188, 188, 188, 188, 188, 180, 180, 182, 182, 172, 188, 188, 174, 188, 188, 188, 185] = 188 from by subst hc37; rfl]
    refine am_Rn.run am_h49 1 (F' := (189, [(0, .int v0)], [.int 4])) (S' := S) rfl ?_
    subst hp
    exact am_Rn.ret am_h49 rfl
  refine am_ite hp (fun hc38 hp => ?_) (fun hc38 hp => ?_)
  · rw [show am_sw v0 0 188 [174, 176, 178, 188, 188, 188, 188, 188, 188, 188, 188, 188, 188, 188, 188, 188, 188, 188, 188, 188, 188, 188, 188, 188, 188, 188, 188, 180, 180, 182, 182, 172, 188, 188, 174, 188, 188, 188, 185] = 188 from by subst hc38; rfl]
    refine am_Rn.run am_h49 1 (F' := (189, [(0, .int v0)], [.int 4])) (S' := S) rfl ?_
    subst hp
    exact am_Rn.ret am_h49 rfl
  refine am_ite hp (fun hc39 hp => ?_) (fun hc39 hp => ?_)
  · rw [show am_sw v0 0 188 [174, 176, 178, 188, 188, 188, 188, 188, 188, 188, 188, 188, 188, 188, 188, 188, 188, 188, 188, 188, 188, 188, 188, 188, 188, 188, 188, 180, 180, 182, 182, 172, 188, 188, 174, 188, 188, 188, 185] = 185 from by subst hc39; rfl]
    refine am_Rn.run am_h49 1 (F' := (187, [(0, .int v0)], [.int 7])) (S' := S) rfl ?_
    subst hp
    exact am_Rn.ret am_h49 rfl
  · rw [show am_sw v0 0 188 [174, 176, 178, 188, 188, 188, 188, 188, 188, 188, 188, 188, 188, 188, 188, 188, 188, 188, 188, 188, 188, 188, 188, 188, 188, 188, 188, 180, 180, 182, 182, 172, 188, 188, 174, 188, 188, 188, 185] = 188 from (if_neg hc1).trans ((if_neg hc2).trans ((if_neg hc3).trans ((if_neg hc4).trans ((if_neg hc5).trans ((if_neg hc6).trans ((if_neg hc7).trans ((if_neg hc8).trans ((if_neg hc9).trans ((if_neg hc10).trans ((if_neg hc11).trans ((if_neg hc12).trans ((if_neg hc13).trans ((if_neg hc14).trans ((if_neg hc15).trans ((if_neg hc16).trans ((if_neg hc17).trans ((if_neg hc18).trans ((if_neg hc19).trans ((if_neg hc20).trans ((if_neg hc21).trans ((if_neg hc22).trans ((if_neg hc23).trans ((if_neg hc24).trans ((if_neg hc25).trans ((if_neg hc26).trans ((if_neg hc27).trans ((if_neg hc28).trans ((if_neg hc29).trans ((if_neg hc30).trans ((if_neg hc31).trans ((if_neg hc32).trans ((if_neg hc33).trans ((if_neg hc34).trans ((if_neg hc35).trans ((if_neg hc36).trans ((if_neg hc37).trans ((if_neg hc38).trans ((if_neg hc39).trans (rfl)))))))))))))))))))))))))))))))))))))))]
    refine am_Rn.run am_h49 1 (F' := (189, [(0, .int v0)], [.int 4])) (S' := S) rfl ?_
    subst hp
    exact am_Rn.ret am_h49 rfl
/-- SixHands$Reader.settle(LSixHands$Text;I)V [55, 't'] -/
def zR_settle_J66 (k0 : Nat → Int32 → (Nat → Nat → Int32) → Option ((Nat → Nat → Int32))) (v1 : Nat) (v2 : Int32) (v3 : Int32) (h : (Nat → Nat → Int32)) : Option ((Nat → Nat → Int32)) := (zX_addCode v1 (20000 + v3) h).bind fun r10 => k0 v1 v2 r10
set_option maxRecDepth 20000 in
theorem ezR_settle_J66 {d : Nat} (hd : 1 ≤ d) (R : (Nat → Nat → Int32)) (k0 : Nat → Int32 → (Nat → Nat → Int32) → Option ((Nat → Nat → Int32))) (hk0 : ∀ (v1 : Nat) (v2 : Int32) (h : (Nat → Nat → Int32)), zK v1 → k0 v1 v2 h = some R → am_Rn 83 Xs am_P d 48 (0, [(0, .ref 55), (1, .ref v1), (2, .int v2)], []) (am_sh, h, hm, g) (none, (am_sh, R, hm, g))) (v1 : Nat) (v2 : Int32) (v3 : Int32) (h : (Nat → Nat → Int32)) (hk_v1 : zK v1) (hp : zR_settle_J66 k0 v1 v2 v3 h = some R) : am_Rn 83 Xs am_P d 48 (66, [(0, .ref 55), (1, .ref v1), (2, .int v2), (3, .int v3)], []) (am_sh, h, hm, g) (none, (am_sh, R, hm, g)) := by
  obtain ⟨d, rfl⟩ : ∃ k, d = k + 1 := ⟨d - 1, by omega⟩
  unfold zR_settle_J66 at hp
  refine am_Rn.run am_h48 4 (F' := (72, [(0, .ref 55), (1, .ref v1), (2, .int v2), (3, .int v3)], [.int (20000 + v3), .ref v1])) (S' := (am_sh, h, hm, g)) (by rcases hk_v1 with rfl | rfl | rfl | rfl | rfl <;> rfl) ?_
  obtain ⟨r10, h_r10, hp⟩ := am_bind hp
  refine am_Rn.call am_h48 (mj := 106) (As := [.ref v1, .int (20000 + v3)]) (F' := (75, [(0, .ref 55), (1, .ref v1), (2, .int v2), (3, .int v3)], [])) (M' := am_m106) (r := none) (S1 := (am_sh, r10, hm, g)) (by rcases hk_v1 with rfl | rfl | rfl | rfl | rfl <;> rfl) am_h106 rfl (ezX_addCode (by omega) v1 (20000 + v3) h _ hk_v1 h_r10) ?_
  refine am_Rn.run am_h48 1 (F' := (0, [(0, .ref 55), (1, .ref v1), (2, .int v2), (3, .int v3)], [])) (S' := (am_sh, r10, hm, g)) (by rcases hk_v1 with rfl | rfl | rfl | rfl | rfl <;> rfl) ?_
  refine am_Rn.sub [0, 1, 2] rfl rfl ?_
  exact hk0 v1 v2 r10 hk_v1 hp
def zR_settle_J56 (k0 : Nat → Int32 → (Nat → Nat → Int32) → Option ((Nat → Nat → Int32))) (v1 : Nat) (v2 : Int32) (v3 : Int32) (h : (Nat → Nat → Int32)) : Option ((Nat → Nat → Int32)) := am_b (va_up h 55 (upd (h 55) 5 ((h 55 5) - 1))) fun h9 => zR_settle_J66 k0 v1 v2 v3 h9
set_option maxRecDepth 20000 in
theorem ezR_settle_J56 {d : Nat} (hd : 1 ≤ d) (R : (Nat → Nat → Int32)) (k0 : Nat → Int32 → (Nat → Nat → Int32) → Option ((Nat → Nat → Int32))) (hk0 : ∀ (v1 : Nat) (v2 : Int32) (h : (Nat → Nat → Int32)), zK v1 → k0 v1 v2 h = some R → am_Rn 83 Xs am_P d 48 (0, [(0, .ref 55), (1, .ref v1), (2, .int v2)], []) (am_sh, h, hm, g) (none, (am_sh, R, hm, g))) (v1 : Nat) (v2 : Int32) (v3 : Int32) (h : (Nat → Nat → Int32)) (hk_v1 : zK v1) (hp : zR_settle_J56 k0 v1 v2 v3 h = some R) : am_Rn 83 Xs am_P d 48 (56, [(0, .ref 55), (1, .ref v1), (2, .int v2), (3, .int v3)], []) (am_sh, h, hm, g) (none, (am_sh, R, hm, g)) := by
  obtain ⟨d, rfl⟩ : ∃ k, d = k + 1 := ⟨d - 1, by omega⟩
  unfold zR_settle_J56 at hp
  obtain ⟨h9, h_h9, hp⟩ := am_b_e hp
  refine am_Rn.run am_h48 6 (F' := (66, [(0, .ref 55), (1, .ref v1), (2, .int v2), (3, .int v3)], [])) (S' := (am_sh, h9, hm, g)) (by subst h_h9; rcases hk_v1 with rfl | rfl | rfl | rfl | rfl <;> rfl) ?_
  exact ezR_settle_J66 hd R k0 hk0 v1 v2 v3 h9 hk_v1 hp
def zR_settle_L0 : Nat → Nat → Int32 → (Nat → Nat → Int32) → Option ((Nat → Nat → Int32))
  | 0, _, _, _ => none
  | n + 1, v1, v2, h => if 0 < (h 55 4) then (am_ix 64 ((h 55 4) - 1) (am_b (zR_rankOf (h 58 (((h 55 4) - 1).toNatClampNeg))) fun r3 => if r3 < v2 then (some h) else (am_b (va_up h 55 (upd (h 55) 4 ((h 55 4) - 1))) fun h5 => am_ix 64 (h5 55 4) (am_b (h5 58 ((h5 55 4).toNatClampNeg)) fun x7 => if x7 = 2 then (zR_settle_J56 (fun v1 v2 h => zR_settle_L0 n v1 v2 h) v1 v2 x7 h5) else (if x7 = 38 then (zR_settle_J56 (fun v1 v2 h => zR_settle_L0 n v1 v2 h) v1 v2 x7 h5) else (zR_settle_J66 (fun v1 v2 h => zR_settle_L0 n v1 v2 h) v1 v2 x7 h5)))))) else (some h)
set_option maxRecDepth 20000 in
theorem ezR_settle_L0 {d : Nat} (hd : 1 ≤ d) (R : (Nat → Nat → Int32)) : ∀ (n : Nat) (v1 : Nat) (v2 : Int32) (h : (Nat → Nat → Int32)), zK v1 → zR_settle_L0 n v1 v2 h = some R → am_Rn 83 Xs am_P d 48 (0, [(0, .ref 55), (1, .ref v1), (2, .int v2)], []) (am_sh, h, hm, g) (none, (am_sh, R, hm, g))
  | 0, _, _, _, _, hp => by cases hp
  | n + 1, v1, v2, h, hk_v1, hp => by
    obtain ⟨d, rfl⟩ : ∃ k, d = k + 1 := ⟨d - 1, by omega⟩
    unfold zR_settle_L0 at hp
    refine am_Rn.run am_h48 2 (F' := (4, [(0, .ref 55), (1, .ref v1), (2, .int v2)], [.int (h 55 4)])) (S' := (am_sh, h, hm, g)) (by rcases hk_v1 with rfl | rfl | rfl | rfl | rfl <;> rfl) ?_
    refine am_Rn.ite am_h48 (c := 0 < (h 55 4)) (t := 7) (f := 78) (lv := [(0, .ref 55), (1, .ref v1), (2, .int v2)]) (st := []) (S' := (am_sh, h, hm, g)) (by rcases hk_v1 with rfl | rfl | rfl | rfl | rfl <;> rfl) hp (fun hc1 hp => ?_) (fun hc1 hp => ?_)
    · refine am_Rn.run am_h48 6 (F' := (17, [(0, .ref 55), (1, .ref v1), (2, .int v2)], [.int ((h 55 4) - 1), .ref 58])) (S' := (am_sh, h, hm, g)) (by rcases hk_v1 with rfl | rfl | rfl | rfl | rfl <;> rfl) ?_
      obtain ⟨hn2, hp⟩ := am_ix_e hp
      refine am_Rn.stepG am_h48 (c := ((h 55 4) - 1) < 0 ∨ 64 ≤ ((h 55 4) - 1).toNatClampNeg) (F' := (18, [(0, .ref 55), (1, .ref v1), (2, .int v2)], [.int (h 58 (((h 55 4) - 1).toNatClampNeg))])) (S' := (am_sh, h, hm, g)) (by rcases hk_v1 with rfl | rfl | rfl | rfl | rfl <;> rfl) hn2 ?_
      obtain ⟨r3, h_r3, hp⟩ := am_b_e hp
      refine am_Rn.call am_h48 (mj := 49) (As := [.int (h 58 (((h 55 4) - 1).toNatClampNeg))]) (F' := (21, [(0, .ref 55), (1, .ref v1), (2, .int v2)], [])) (M' := am_m49) (r := some (.int r3)) (S1 := (am_sh, h, hm, g)) (by rcases hk_v1 with rfl | rfl | rfl | rfl | rfl <;> rfl) am_h49 rfl (by subst h_r3; exact (ezR_rankOf (by omega) (h 58 (((h 55 4) - 1).toNatClampNeg)))) ?_
      refine am_Rn.run am_h48 1 (F' := (22, [(0, .ref 55), (1, .ref v1), (2, .int v2)], [.int v2, .int r3])) (S' := (am_sh, h, hm, g)) (by rcases hk_v1 with rfl | rfl | rfl | rfl | rfl <;> rfl) ?_
      refine am_Rn.ite am_h48 (c := r3 < v2) (t := 78) (f := 25) (lv := [(0, .ref 55), (1, .ref v1), (2, .int v2)]) (st := []) (S' := (am_sh, h, hm, g)) (by rcases hk_v1 with rfl | rfl | rfl | rfl | rfl <;> rfl) hp (fun hc4 hp => ?_) (fun hc4 hp => ?_)
      · cases hp
        exact am_Rn.ret am_h48 (by rcases hk_v1 with rfl | rfl | rfl | rfl | rfl <;> rfl)
      · obtain ⟨h5, h_h5, hp⟩ := am_b_e hp
        refine am_Rn.run am_h48 10 (F' := (43, [(0, .ref 55), (1, .ref v1), (2, .int v2)], [.int (h5 55 4), .ref 58])) (S' := (am_sh, h5, hm, g)) (by subst h_h5; rcases hk_v1 with rfl | rfl | rfl | rfl | rfl <;> rfl) ?_
        obtain ⟨hn6, hp⟩ := am_ix_e hp
        refine am_Rn.stepG am_h48 (c := (h5 55 4) < 0 ∨ 64 ≤ (h5 55 4).toNatClampNeg) (F' := (44, [(0, .ref 55), (1, .ref v1), (2, .int v2)], [.int (h5 58 ((h5 55 4).toNatClampNeg))])) (S' := (am_sh, h5, hm, g)) (by rcases hk_v1 with rfl | rfl | rfl | rfl | rfl <;> rfl) hn6 ?_
        obtain ⟨x7, h_x7, hp⟩ := am_b_e hp
        refine am_Rn.run am_h48 3 (F' := (47, [(3, .int x7), (0, .ref 55), (1, .ref v1), (2, .int v2)], [.int 2, .int x7])) (S' := (am_sh, h5, hm, g)) (by subst h_x7; rcases hk_v1 with rfl | rfl | rfl | rfl | rfl <;> rfl) ?_
        refine am_Rn.ite am_h48 (c := x7 = 2) (t := 56) (f := 50) (lv := [(3, .int x7), (0, .ref 55), (1, .ref v1), (2, .int v2)]) (st := []) (S' := (am_sh, h5, hm, g)) (by rcases hk_v1 with rfl | rfl | rfl | rfl | rfl <;> rfl) hp (fun hc8 hp => ?_) (fun hc8 hp => ?_)
        · refine am_Rn.sub [1, 2, 3, 0] rfl rfl ?_
          exact ezR_settle_J56 hd R (fun v1 v2 h => zR_settle_L0 n v1 v2 h) (fun v1 v2 h hk_v1 hp => ezR_settle_L0 hd R n v1 v2 h hk_v1 hp) v1 v2 x7 h5 hk_v1 hp
        · refine am_Rn.run am_h48 2 (F' := (53, [(3, .int x7), (0, .ref 55), (1, .ref v1), (2, .int v2)], [.int 38, .int x7])) (S' := (am_sh, h5, hm, g)) (by rcases hk_v1 with rfl | rfl | rfl | rfl | rfl <;> rfl) ?_
          refine am_Rn.ite am_h48 (c := x7 = 38) (t := 56) (f := 66) (lv := [(3, .int x7), (0, .ref 55), (1, .ref v1), (2, .int v2)]) (st := []) (S' := (am_sh, h5, hm, g)) (by rcases hk_v1 with rfl | rfl | rfl | rfl | rfl <;> rfl) hp (fun hc11 hp => ?_) (fun hc11 hp => ?_)
          · refine am_Rn.sub [1, 2, 3, 0] rfl rfl ?_
            exact ezR_settle_J56 hd R (fun v1 v2 h => zR_settle_L0 n v1 v2 h) (fun v1 v2 h hk_v1 hp => ezR_settle_L0 hd R n v1 v2 h hk_v1 hp) v1 v2 x7 h5 hk_v1 hp
          · refine am_Rn.sub [1, 2, 3, 0] rfl rfl ?_
            exact ezR_settle_J66 hd R (fun v1 v2 h => zR_settle_L0 n v1 v2 h) (fun v1 v2 h hk_v1 hp => ezR_settle_L0 hd R n v1 v2 h hk_v1 hp) v1 v2 x7 h5 hk_v1 hp
    · cases hp
      exact am_Rn.ret am_h48 (by rcases hk_v1 with rfl | rfl | rfl | rfl | rfl <;> rfl)
def zR_settle (v1 : Nat) (v2 : Int32) (h : (Nat → Nat → Int32)) : Option ((Nat → Nat → Int32)) := zR_settle_L0 am_N v1 v2 h
set_option maxRecDepth 20000 in
theorem ezR_settle {d : Nat} (hd : 1 ≤ d) (v1 : Nat) (v2 : Int32) (h : (Nat → Nat → Int32)) (R : (Nat → Nat → Int32)) (hk_v1 : zK v1) (hp : zR_settle v1 v2 h = some R) : am_Ev 83 Xs am_P d 48 [.ref 55, .ref v1, .int v2] (am_sh, h, hm, g) (none, (am_sh, R, hm, g)) := by
  obtain ⟨d, rfl⟩ : ∃ k, d = k + 1 := ⟨d - 1, by omega⟩
  unfold zR_settle at hp
  show am_Rn 83 Xs am_P _ 48 (0, [(0, .ref 55), (1, .ref v1), (2, .int v2)], []) _ _
  exact ezR_settle_L0 hd R am_N v1 v2 h hk_v1 hp
/-- java/lang/Math.max(II)I [] -/
def zD_max (v0 : Int32) (v1 : Int32) : Int32 := if v0 < v1 then (v1) else (v0)
set_option maxRecDepth 20000 in
theorem ezD_max {d : Nat} (hd : 0 ≤ d) (v0 : Int32) (v1 : Int32) : am_Ev 83 Xs am_P d 2 [.int v0, .int v1] S (some (.int ((zD_max v0 v1))), S) := by
  obtain ⟨R, hp⟩ : ∃ R, zD_max v0 v1 = R := ⟨_, rfl⟩
  rw [hp]
  unfold zD_max at hp
  show am_Rn 83 Xs am_P _ 2 (0, [(0, .int v0), (1, .int v1)], []) _ _
  refine am_Rn.run am_h2 2 (F' := (2, [(0, .int v0), (1, .int v1)], [.int v1, .int v0])) (S' := S) rfl ?_
  refine am_Rn.ite am_h2 (c := v0 < v1) (t := 9) (f := 5) (lv := [(0, .int v0), (1, .int v1)]) (st := []) (S' := S) rfl hp (fun hc1 hp => ?_) (fun hc1 hp => ?_)
  · refine am_Rn.run am_h2 1 (F' := (10, [(0, .int v0), (1, .int v1)], [.int v1])) (S' := S) rfl ?_
    subst hp
    exact am_Rn.ret am_h2 rfl
  · refine am_Rn.run am_h2 2 (F' := (10, [(0, .int v0), (1, .int v1)], [.int v0])) (S' := S) rfl ?_
    subst hp
    exact am_Rn.ret am_h2 rfl
/-- SixHands$Reader.closeBracket(LSixHands$Text;)V [55, 't'] -/
def zR_closeBracket (v1 : Nat) (h : (Nat → Nat → Int32)) : Option ((Nat → Nat → Int32)) := (zR_settle v1 1 h).bind fun r1 => am_b (zD_max 0 ((r1 55 4) - 1)) fun r2 => am_b (va_up r1 55 (upd (r1 55) 4 r2)) fun h3 => am_b (va_up h3 55 (upd (h3 55) 6 ((h3 55 6) - 1))) fun h4 => am_b (va_up h4 55 (upd (h4 55) 5 ((h4 55 5) - 1))) fun h5 => some h5
set_option maxRecDepth 20000 in
theorem ezR_closeBracket {d : Nat} (hd : 2 ≤ d) (v1 : Nat) (h : (Nat → Nat → Int32)) (R : (Nat → Nat → Int32)) (hk_v1 : zK v1) (hp : zR_closeBracket v1 h = some R) : am_Ev 83 Xs am_P d 47 [.ref 55, .ref v1] (am_sh, h, hm, g) (none, (am_sh, R, hm, g)) := by
  obtain ⟨d, rfl⟩ : ∃ k, d = k + 1 := ⟨d - 1, by omega⟩
  unfold zR_closeBracket at hp
  show am_Rn 83 Xs am_P _ 47 (0, [(0, .ref 55), (1, .ref v1)], []) _ _
  refine am_Rn.run am_h47 3 (F' := (3, [(0, .ref 55), (1, .ref v1)], [.int 1, .ref v1, .ref 55])) (S' := (am_sh, h, hm, g)) (by rcases hk_v1 with rfl | rfl | rfl | rfl | rfl <;> rfl) ?_
  obtain ⟨r1, h_r1, hp⟩ := am_bind hp
  refine am_Rn.call am_h47 (mj := 48) (As := [.ref 55, .ref v1, .int 1]) (F' := (6, [(0, .ref 55), (1, .ref v1)], [])) (M' := am_m48) (r := none) (S1 := (am_sh, r1, hm, g)) (by rcases hk_v1 with rfl | rfl | rfl | rfl | rfl <;> rfl) am_h48 rfl (ezR_settle (by omega) v1 1 h _ hk_v1 h_r1) ?_
  refine am_Rn.run am_h47 6 (F' := (14, [(0, .ref 55), (1, .ref v1)], [.int ((r1 55 4) - 1), .int 0, .ref 55])) (S' := (am_sh, r1, hm, g)) (by rcases hk_v1 with rfl | rfl | rfl | rfl | rfl <;> rfl) ?_
  obtain ⟨r2, h_r2, hp⟩ := am_b_e hp
  refine am_Rn.call am_h47 (mj := 2) (As := [.int 0, .int ((r1 55 4) - 1)]) (F' := (17, [(0, .ref 55), (1, .ref v1)], [.ref 55])) (M' := am_m2) (r := some (.int r2)) (S1 := (am_sh, r1, hm, g)) (by rcases hk_v1 with rfl | rfl | rfl | rfl | rfl <;> rfl) am_h2 rfl (by subst h_r2; exact (ezD_max (by omega) 0 ((r1 55 4) - 1))) ?_
  obtain ⟨h3, h_h3, hp⟩ := am_b_e hp
  obtain ⟨h4, h_h4, hp⟩ := am_b_e hp
  obtain ⟨h5, h_h5, hp⟩ := am_b_e hp
  refine am_Rn.run am_h47 13 (F' := (40, [(0, .ref 55), (1, .ref v1)], [])) (S' := (am_sh, h5, hm, g)) (by subst h_h3; subst h_h4; subst h_h5; rcases hk_v1 with rfl | rfl | rfl | rfl | rfl <;> rfl) ?_
  cases hp
  exact am_Rn.ret am_h47 (by rcases hk_v1 with rfl | rfl | rfl | rfl | rfl <;> rfl)
end
