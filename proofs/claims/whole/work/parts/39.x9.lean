section
variable {Xs : Nat × (Nat → Int32)} {hx hm : Nat → Nat → Int32} {g : Nat → Nat → Int64} {S : am_S}
/-- SixHands.about(I)I [0] -/
def zH_about_J65 (v1 : Int32) (h : (Nat → Nat → Int32)) : Option (Int32) := if v1 = 0 then (some (h 1 0)) else if v1 = 1 then (some (h 1 1)) else if v1 = 2 then (some (h 1 4)) else if v1 = 3 then (some (h 1 9)) else if v1 = 4 then (some (h 1 10)) else if v1 = 5 then (some (h 1 11)) else if v1 = 6 then (some (h 1 12)) else if v1 = 7 then (some (h 1 13)) else if v1 = 8 then (some (h 56 1)) else (some (-2))
set_option maxRecDepth 20000 in
theorem ezH_about_J65 {d : Nat} (hd : 1 ≤ d) (R : Int32) (v1 : Int32) (h : (Nat → Nat → Int32)) (hp : zH_about_J65 v1 h = some R) : am_Rn 83 Xs am_P d 134 (65, [(0, .ref 0), (1, .int v1)], []) (am_sh, h, hm, g) (some (.int R), (am_sh, h, hm, g)) := by
  obtain ⟨d, rfl⟩ : ∃ k, d = k + 1 := ⟨d - 1, by omega⟩
  unfold zH_about_J65 at hp
  refine am_Rn.run am_h134 1 (F' := (66, [(0, .ref 0), (1, .int v1)], [.int v1])) (S' := (am_sh, h, hm, g)) rfl ?_
  refine am_Rn.step am_h134 (F' := (am_sw v1 0 191 [116, 124, 132, 140, 148, 156, 164, 172, 180], [(0, .ref 0), (1, .int v1)], [])) (S' := (am_sh, h, hm, g)) rfl ?_
  refine am_ite hp (fun hc3 hp => ?_) (fun hc3 hp => ?_)
  · rw [show am_sw v1 0 191 [116, 124, 132, 140, 148, 156, 164, 172, 180] = 116 from by subst hc3; rfl]
    refine am_Rn.run am_h134 3 (F' := (123, [(0, .ref 0), (1, .int v1)], [.int (h 1 0)])) (S' := (am_sh, h, hm, g)) rfl ?_
    cases hp
    exact am_Rn.ret am_h134 rfl
  refine am_ite hp (fun hc4 hp => ?_) (fun hc4 hp => ?_)
  · rw [show am_sw v1 0 191 [116, 124, 132, 140, 148, 156, 164, 172, 180] = 124 from by subst hc4; rfl]
    refine am_Rn.run am_h134 3 (F' := (131, [(0, .ref 0), (1, .int v1)], [.int (h 1 1)])) (S' := (am_sh, h, hm, g)) rfl ?_
    cases hp
    exact am_Rn.ret am_h134 rfl
  refine am_ite hp (fun hc5 hp => ?_) (fun hc5 hp => ?_)
  · rw [show am_sw v1 0 191 [116, 124, 132, 140, 148, 156, 164, 172, 180] = 132 from by subst hc5; rfl]
    refine am_Rn.run am_h134 3 (F' := (139, [(0, .ref 0), (1, .int v1)], [.int (h 1 4)])) (S' := (am_sh, h, hm, g)) rfl ?_
    cases hp
    exact am_Rn.ret am_h134 rfl
  refine am_ite hp (fun hc6 hp => ?_) (fun hc6 hp => ?_)
  · rw [show am_sw v1 0 191 [116, 124, 132, 140, 148, 156, 164, 172, 180] = 140 from by subst hc6; rfl]
    refine am_Rn.run am_h134 3 (F' := (147, [(0, .ref 0), (1, .int v1)], [.int (h 1 9)])) (S' := (am_sh, h, hm, g)) rfl ?_
    cases hp
    exact am_Rn.ret am_h134 rfl
  refine am_ite hp (fun hc7 hp => ?_) (fun hc7 hp => ?_)
  · rw [show am_sw v1 0 191 [116, 124, 132, 140, 148, 156, 164, 172, 180] = 148 from by subst hc7; rfl]
    refine am_Rn.run am_h134 3 (F' := (155, [(0, .ref 0), (1, .int v1)], [.int (h 1 10)])) (S' := (am_sh, h, hm, g)) rfl ?_
    cases hp
    exact am_Rn.ret am_h134 rfl
  refine am_ite hp (fun hc8 hp => ?_) (fun hc8 hp => ?_)
  · rw [show am_sw v1 0 191 [116, 124, 132, 140, 148, 156, 164, 172, 180] = 156 from by subst hc8; rfl]
    refine am_Rn.run am_h134 3 (F' := (163, [(0, .ref 0), (1, .int v1)], [.int (h 1 11)])) (S' := (am_sh, h, hm, g)) rfl ?_
    cases hp
    exact am_Rn.ret am_h134 rfl
  refine am_ite hp (fun hc9 hp => ?_) (fun hc9 hp => ?_)
  · rw [show am_sw v1 0 191 [116, 124, 132, 140, 148, 156, 164, 172, 180] = 164 from by subst hc9; rfl]
    refine am_Rn.run am_h134 3 (F' := (171, [(0, .ref 0), (1, .int v1)], [.int (h 1 12)])) (S' := (am_sh, h, hm, g)) rfl ?_
    cases hp
    exact am_Rn.ret am_h134 rfl
  refine am_ite hp (fun hc10 hp => ?_) (fun hc10 hp => ?_)
  · rw [show am_sw v1 0 191 [116, 124, 132, 140, 148, 156, 164, 172, 180] = 172 from by subst hc10; rfl]
    refine am_Rn.run am_h134 3 (F' := (179, [(0, .ref 0), (1, .int v1)], [.int (h 1 13)])) (S' := (am_sh, h, hm, g)) rfl ?_
    cases hp
    exact am_Rn.ret am_h134 rfl
  refine am_ite hp (fun hc11 hp => ?_) (fun hc11 hp => ?_)
  · rw [show am_sw v1 0 191 [116, 124, 132, 140, 148, 156, 164, 172, 180] = 180 from by subst hc11; rfl]
    refine am_Rn.run am_h134 4 (F' := (190, [(0, .ref 0), (1, .int v1)], [.int (h 56 1)])) (S' := (am_sh, h, hm, g)) rfl ?_
    cases hp
    exact am_Rn.ret am_h134 rfl
  · rw [show am_sw v1 0 191 [116, 124, 132, 140, 148, 156, 164, 172, 180] = 191 from (if_neg hc3).trans ((if_neg hc4).trans ((if_neg hc5).trans ((if_neg hc6).trans ((if_neg hc7).trans ((if_neg hc8).trans ((if_neg hc9).trans ((if_neg hc10).trans ((if_neg hc11).trans (rfl)))))))))]
    refine am_Rn.run am_h134 1 (F' := (193, [(0, .ref 0), (1, .int v1)], [.int (-2)])) (S' := (am_sh, h, hm, g)) rfl ?_
    cases hp
    exact am_Rn.ret am_h134 rfl
def zH_about_J33 (v1 : Int32) (h : (Nat → Nat → Int32)) : Option (Int32) := if v1 < 20 then (zH_about_J65 v1 h) else (am_b (zG_hands h) fun r12 => if v1 < (20 + r12) then ((zG_orderOf (v1 - 20) h).bind fun r14 => some r14) else (zH_about_J65 v1 h))
set_option maxRecDepth 20000 in
theorem ezH_about_J33 {d : Nat} (hd : 1 ≤ d) (R : Int32) (v1 : Int32) (h : (Nat → Nat → Int32)) (hp : zH_about_J33 v1 h = some R) : am_Rn 83 Xs am_P d 134 (33, [(0, .ref 0), (1, .int v1)], []) (am_sh, h, hm, g) (some (.int R), (am_sh, h, hm, g)) := by
  obtain ⟨d, rfl⟩ : ∃ k, d = k + 1 := ⟨d - 1, by omega⟩
  unfold zH_about_J33 at hp
  refine am_Rn.run am_h134 2 (F' := (36, [(0, .ref 0), (1, .int v1)], [.int 20, .int v1])) (S' := (am_sh, h, hm, g)) rfl ?_
  refine am_Rn.ite am_h134 (c := v1 < 20) (t := 65) (f := 39) (lv := [(0, .ref 0), (1, .int v1)]) (st := []) (S' := (am_sh, h, hm, g)) rfl hp (fun hc2 hp => ?_) (fun hc2 hp => ?_)
  · exact ezH_about_J65 hd R v1 h hp
  · refine am_Rn.run am_h134 4 (F' := (46, [(0, .ref 0), (1, .int v1)], [.ref 1, .int 20, .int v1])) (S' := (am_sh, h, hm, g)) rfl ?_
    obtain ⟨r12, h_r12, hp⟩ := am_b_e hp
    refine am_Rn.call am_h134 (mj := 82) (As := [.ref 1]) (F' := (49, [(0, .ref 0), (1, .int v1)], [.int 20, .int v1])) (M' := am_m82) (r := some (.int r12)) (S1 := (am_sh, h, hm, g)) rfl am_h82 rfl (by subst h_r12; exact (ezG_hands (by omega) h)) ?_
    refine am_Rn.run am_h134 1 (F' := (50, [(0, .ref 0), (1, .int v1)], [.int (20 + r12), .int v1])) (S' := (am_sh, h, hm, g)) rfl ?_
    refine am_Rn.ite am_h134 (c := v1 < (20 + r12)) (t := 53) (f := 65) (lv := [(0, .ref 0), (1, .int v1)]) (st := []) (S' := (am_sh, h, hm, g)) rfl hp (fun hc13 hp => ?_) (fun hc13 hp => ?_)
    · refine am_Rn.run am_h134 5 (F' := (61, [(0, .ref 0), (1, .int v1)], [.int (v1 - 20), .ref 1])) (S' := (am_sh, h, hm, g)) rfl ?_
      obtain ⟨r14, h_r14, hp⟩ := am_bind hp
      refine am_Rn.call am_h134 (mj := 83) (As := [.ref 1, .int (v1 - 20)]) (F' := (64, [(0, .ref 0), (1, .int v1)], [])) (M' := am_m83) (r := some (.int r14)) (S1 := (am_sh, h, hm, g)) rfl am_h83 rfl (ezG_orderOf (by omega) (v1 - 20) h _ h_r14) ?_
      cases hp
      exact am_Rn.ret am_h134 rfl
    · exact ezH_about_J65 hd R v1 h hp
def zH_about (v1 : Int32) (h : (Nat → Nat → Int32)) : Option (Int32) := if v1 < 10 then (zH_about_J33 v1 h) else (if v1 < (10 + (h 1 4)) then (am_ix 6 (v1 - 10) (some (h 6 ((v1 - 10).toNatClampNeg)))) else (zH_about_J33 v1 h))
set_option maxRecDepth 20000 in
theorem ezH_about {d : Nat} (hd : 1 ≤ d) (v1 : Int32) (h : (Nat → Nat → Int32)) (R : Int32) (hp : zH_about v1 h = some R) : am_Ev 83 Xs am_P d 134 [.ref 0, .int v1] (am_sh, h, hm, g) (some (.int R), (am_sh, h, hm, g)) := by
  obtain ⟨d, rfl⟩ : ∃ k, d = k + 1 := ⟨d - 1, by omega⟩
  unfold zH_about at hp
  show am_Rn 83 Xs am_P _ 134 (0, [(0, .ref 0), (1, .int v1)], []) _ _
  refine am_Rn.run am_h134 2 (F' := (3, [(0, .ref 0), (1, .int v1)], [.int 10, .int v1])) (S' := (am_sh, h, hm, g)) rfl ?_
  refine am_Rn.ite am_h134 (c := v1 < 10) (t := 33) (f := 6) (lv := [(0, .ref 0), (1, .int v1)]) (st := []) (S' := (am_sh, h, hm, g)) rfl hp (fun hc1 hp => ?_) (fun hc1 hp => ?_)
  · exact ezH_about_J33 hd R v1 h hp
  · refine am_Rn.run am_h134 6 (F' := (17, [(0, .ref 0), (1, .int v1)], [.int (10 + (h 1 4)), .int v1])) (S' := (am_sh, h, hm, g)) rfl ?_
    refine am_Rn.ite am_h134 (c := v1 < (10 + (h 1 4))) (t := 20) (f := 33) (lv := [(0, .ref 0), (1, .int v1)]) (st := []) (S' := (am_sh, h, hm, g)) rfl hp (fun hc15 hp => ?_) (fun hc15 hp => ?_)
    · refine am_Rn.run am_h134 6 (F' := (31, [(0, .ref 0), (1, .int v1)], [.int (v1 - 10), .ref 6])) (S' := (am_sh, h, hm, g)) rfl ?_
      obtain ⟨hn16, hp⟩ := am_ix_e hp
      refine am_Rn.stepG am_h134 (c := (v1 - 10) < 0 ∨ 6 ≤ (v1 - 10).toNatClampNeg) (F' := (32, [(0, .ref 0), (1, .int v1)], [.int (h 6 ((v1 - 10).toNatClampNeg))])) (S' := (am_sh, h, hm, g)) rfl hn16 ?_
      cases hp
      exact am_Rn.ret am_h134 rfl
    · exact ezH_about_J33 hd R v1 h hp
end
