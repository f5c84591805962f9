section
variable {Xs : Nat × (Nat → Int32)} {hx hm : Nat → Nat → Int32} {g : Nat → Nat → Int64} {S : am_S}
/-- SixHands$Stage.plays(III)Z [1] -/
def zG_plays (v1 : Int32) (v2 : Int32) (v3 : Int32) (h : (Nat → Nat → Int32)) : Option (Int32 × (Nat → Nat → Int32)) := if v1 = 6 then (am_b (zG_isThere v2 h) fun r2 => if r2 = 0 then (some ((0, h))) else (am_ix 6 v2 (if (h 7 (v2.toNatClampNeg)) = (-1) then ((zG_comesTo v2 v3 h).bind fun r6 => if r6.1 = 0 then (some ((0, r6.2))) else (some ((1, r6.2)))) else (some ((0, h)))))) else if v1 = 7 then ((zG_isNowOn v2 h).bind fun r9 => if r9 = 0 then (some ((0, h))) else ((zG_leaves v2 h).bind fun r11 => if r11.1 = 0 then (some ((0, r11.2))) else (some ((1, r11.2))))) else if v1 = 8 then ((zG_isNowOn v2 h).bind fun r14 => if r14 = 0 then (some ((0, h))) else ((zG_comesTo v2 v3 h).bind fun r16 => if r16.1 = 0 then (some ((0, r16.2))) else (some ((1, r16.2))))) else if v1 = 9 then (if v2 = v3 then (some ((0, h))) else ((zG_isNowOn v2 h).bind fun r20 => if r20 = 0 then (some ((0, h))) else ((zG_isNowOn v3 h).bind fun r22 => if r22 = 0 then (some ((0, h))) else ((zG_hits v2 v3 h).bind fun r24 => if r24.1 = 0 then (some ((0, r24.2))) else (some ((1, r24.2))))))) else if v1 = 10 then ((zG_endsBeat h).bind fun r27 => some ((r27.1 &&& 1, r27.2))) else (some ((1, h)))
set_option maxRecDepth 20000 in
theorem ezG_plays {d : Nat} (hd : 2 ≤ d) (v1 : Int32) (v2 : Int32) (v3 : Int32) (h : (Nat → Nat → Int32)) (R : Int32 × (Nat → Nat → Int32)) (hp : zG_plays v1 v2 v3 h = some R) : am_Ev 83 Xs am_P d 75 [.ref 1, .int v1, .int v2, .int v3] (am_sh, h, hm, g) (some (.int R.1), (am_sh, R.2, hm, g)) := by
  obtain ⟨d, rfl⟩ : ∃ k, d = k + 1 := ⟨d - 1, by omega⟩
  unfold zG_plays at hp
  show am_Rn 83 Xs am_P _ 75 (0, [(0, .ref 1), (1, .int v1), (2, .int v2), (3, .int v3)], []) _ _
  refine am_Rn.run am_h75 1 (F' := (1, [(0, .ref 1), (1, .int v1), (2, .int v2), (3, .int v3)], [.int v1])) (S' := (am_sh, h, hm, g)) rfl ?_
  refine am_Rn.step am_h75 (F' := (am_sw v1 6 155 [36, 69, 91, 114, 150], [(0, .ref 1), (1, .int v1), (2, .int v2), (3, .int v3)], [])) (S' := (am_sh, h, hm, g)) rfl ?_
  refine am_ite hp (fun hc1 hp => ?_) (fun hc1 hp => ?_)
  · rw [show am_sw v1 6 155 [36, 69, 91, 114, 150] = 36 from by subst hc1; rfl]
    refine am_Rn.run am_h75 2 (F' := (38, [(0, .ref 1), (1, .int v1), (2, .int v2), (3, .int v3)], [.int v2, .ref 1])) (S' := (am_sh, h, hm, g)) rfl ?_
    obtain ⟨r2, h_r2, hp⟩ := am_b_e hp
    refine am_Rn.call am_h75 (mj := 76) (As := [.ref 1, .int v2]) (F' := (41, [(0, .ref 1), (1, .int v1), (2, .int v2), (3, .int v3)], [])) (M' := am_m76) (r := some (.int r2)) (S1 := (am_sh, h, hm, g)) rfl am_h76 rfl (by subst h_r2; exact (ezG_isThere (by omega) v2 h)) ?_
    refine am_Rn.ite am_h75 (c := r2 = 0) (t := 67) (f := 44) (lv := [(0, .ref 1), (1, .int v1), (2, .int v2), (3, .int v3)]) (st := []) (S' := (am_sh, h, hm, g)) rfl hp (fun hc3 hp => ?_) (fun hc3 hp => ?_)
    · refine am_Rn.run am_h75 1 (F' := (68, [(0, .ref 1), (1, .int v1), (2, .int v2), (3, .int v3)], [.int 0])) (S' := (am_sh, h, hm, g)) rfl ?_
      cases hp
      exact am_Rn.ret am_h75 rfl
    · refine am_Rn.run am_h75 3 (F' := (49, [(0, .ref 1), (1, .int v1), (2, .int v2), (3, .int v3)], [.int v2, .ref 7])) (S' := (am_sh, h, hm, g)) rfl ?_
      obtain ⟨hn4, hp⟩ := am_ix_e hp
      refine am_Rn.stepG am_h75 (c := v2 < 0 ∨ 6 ≤ v2.toNatClampNeg) (F' := (50, [(0, .ref 1), (1, .int v1), (2, .int v2), (3, .int v3)], [.int (h 7 (v2.toNatClampNeg))])) (S' := (am_sh, h, hm, g)) rfl hn4 ?_
      refine am_Rn.run am_h75 1 (F' := (51, [(0, .ref 1), (1, .int v1), (2, .int v2), (3, .int v3)], [.int (-1), .int (h 7 (v2.toNatClampNeg))])) (S' := (am_sh, h, hm, g)) rfl ?_
      refine am_Rn.ite am_h75 (c := (h 7 (v2.toNatClampNeg)) = (-1)) (t := 54) (f := 67) (lv := [(0, .ref 1), (1, .int v1), (2, .int v2), (3, .int v3)]) (st := []) (S' := (am_sh, h, hm, g)) rfl hp (fun hc5 hp => ?_) (fun hc5 hp => ?_)
      · refine am_Rn.run am_h75 3 (F' := (57, [(0, .ref 1), (1, .int v1), (2, .int v2), (3, .int v3)], [.int v3, .int v2, .ref 1])) (S' := (am_sh, h, hm, g)) rfl ?_
        obtain ⟨r6, h_r6, hp⟩ := am_bind hp
        refine am_Rn.call am_h75 (mj := 78) (As := [.ref 1, .int v2, .int v3]) (F' := (60, [(0, .ref 1), (1, .int v1), (2, .int v2), (3, .int v3)], [])) (M' := am_m78) (r := some (.int r6.1)) (S1 := (am_sh, r6.2, hm, g)) rfl am_h78 rfl (ezG_comesTo (by omega) v2 v3 h _ h_r6) ?_
        refine am_Rn.ite am_h75 (c := r6.1 = 0) (t := 67) (f := 63) (lv := [(0, .ref 1), (1, .int v1), (2, .int v2), (3, .int v3)]) (st := []) (S' := (am_sh, r6.2, hm, g)) rfl hp (fun hc7 hp => ?_) (fun hc7 hp => ?_)
        · refine am_Rn.run am_h75 1 (F' := (68, [(0, .ref 1), (1, .int v1), (2, .int v2), (3, .int v3)], [.int 0])) (S' := (am_sh, r6.2, hm, g)) rfl ?_
          cases hp
          exact am_Rn.ret am_h75 rfl
        · refine am_Rn.run am_h75 2 (F' := (68, [(0, .ref 1), (1, .int v1), (2, .int v2), (3, .int v3)], [.int 1])) (S' := (am_sh, r6.2, hm, g)) rfl ?_
          cases hp
          exact am_Rn.ret am_h75 rfl
      · refine am_Rn.run am_h75 1 (F' := (68, [(0, .ref 1), (1, .int v1), (2, .int v2), (3, .int v3)], [.int 0])) (S' := (am_sh, h, hm, g)) rfl ?_
        cases hp
        exact am_Rn.ret am_h75 rfl
  refine am_ite hp (fun hc8 hp => ?_) (fun hc8 hp => ?_)
  · rw [show am_sw v1 6 155 [36, 69, 91, 114, 150] = 69 from by subst hc8; rfl]
    refine am_Rn.run am_h75 2 (F' := (71, [(0, .ref 1), (1, .int v1), (2, .int v2), (3, .int v3)], [.int v2, .ref 1])) (S' := (am_sh, h, hm, g)) rfl ?_
    obtain ⟨r9, h_r9, hp⟩ := am_bind hp
    refine am_Rn.call am_h75 (mj := 77) (As := [.ref 1, .int v2]) (F' := (74, [(0, .ref 1), (1, .int v1), (2, .int v2), (3, .int v3)], [])) (M' := am_m77) (r := some (.int r9)) (S1 := (am_sh, h, hm, g)) rfl am_h77 rfl (ezG_isNowOn (by omega) v2 h _ h_r9) ?_
    refine am_Rn.ite am_h75 (c := r9 = 0) (t := 89) (f := 77) (lv := [(0, .ref 1), (1, .int v1), (2, .int v2), (3, .int v3)]) (st := []) (S' := (am_sh, h, hm, g)) rfl hp (fun hc10 hp => ?_) (fun hc10 hp => ?_)
    · refine am_Rn.run am_h75 1 (F' := (90, [(0, .ref 1), (1, .int v1), (2, .int v2), (3, .int v3)], [.int 0])) (S' := (am_sh, h, hm, g)) rfl ?_
      cases hp
      exact am_Rn.ret am_h75 rfl
    · refine am_Rn.run am_h75 2 (F' := (79, [(0, .ref 1), (1, .int v1), (2, .int v2), (3, .int v3)], [.int v2, .ref 1])) (S' := (am_sh, h, hm, g)) rfl ?_
      obtain ⟨r11, h_r11, hp⟩ := am_bind hp
      refine am_Rn.call am_h75 (mj := 79) (As := [.ref 1, .int v2]) (F' := (82, [(0, .ref 1), (1, .int v1), (2, .int v2), (3, .int v3)], [])) (M' := am_m79) (r := some (.int r11.1)) (S1 := (am_sh, r11.2, hm, g)) rfl am_h79 rfl (ezG_leaves (by omega) v2 h _ h_r11) ?_
      refine am_Rn.ite am_h75 (c := r11.1 = 0) (t := 89) (f := 85) (lv := [(0, .ref 1), (1, .int v1), (2, .int v2), (3, .int v3)]) (st := []) (S' := (am_sh, r11.2, hm, g)) rfl hp (fun hc12 hp => ?_) (fun hc12 hp => ?_)
      · refine am_Rn.run am_h75 1 (F' := (90, [(0, .ref 1), (1, .int v1), (2, .int v2), (3, .int v3)], [.int 0])) (S' := (am_sh, r11.2, hm, g)) rfl ?_
        cases hp
        exact am_Rn.ret am_h75 rfl
      · refine am_Rn.run am_h75 2 (F' := (90, [(0, .ref 1), (1, .int v1), (2, .int v2), (3, .int v3)], [.int 1])) (S' := (am_sh, r11.2, hm, g)) rfl ?_
        cases hp
        exact am_Rn.ret am_h75 rfl
  refine am_ite hp (fun hc13 hp => ?_) (fun hc13 hp => ?_)
  · rw [show am_sw v1 6 155 [36, 69, 91, 114, 150] = 91 from by subst hc13; rfl]
    refine am_Rn.run am_h75 2 (F' := (93, [(0, .ref 1), (1, .int v1), (2, .int v2), (3, .int v3)], [.int v2, .ref 1])) (S' := (am_sh, h, hm, g)) rfl ?_
    obtain ⟨r14, h_r14, hp⟩ := am_bind hp
    refine am_Rn.call am_h75 (mj := 77) (As := [.ref 1, .int v2]) (F' := (96, [(0, .ref 1), (1, .int v1), (2, .int v2), (3, .int v3)], [])) (M' := am_m77) (r := some (.int r14)) (S1 := (am_sh, h, hm, g)) rfl am_h77 rfl (ezG_isNowOn (by omega) v2 h _ h_r14) ?_
    refine am_Rn.ite am_h75 (c := r14 = 0) (t := 112) (f := 99) (lv := [(0, .ref 1), (1, .int v1), (2, .int v2), (3, .int v3)]) (st := []) (S' := (am_sh, h, hm, g)) rfl hp (fun hc15 hp => ?_) (fun hc15 hp => ?_)
    · refine am_Rn.run am_h75 1 (F' := (113, [(0, .ref 1), (1, .int v1), (2, .int v2), (3, .int v3)], [.int 0])) (S' := (am_sh, h, hm, g)) rfl ?_
      cases hp
      exact am_Rn.ret am_h75 rfl
    · refine am_Rn.run am_h75 3 (F' := (102, [(0, .ref 1), (1, .int v1), (2, .int v2), (3, .int v3)], [.int v3, .int v2, .ref 1])) (S' := (am_sh, h, hm, g)) rfl ?_
      obtain ⟨r16, h_r16, hp⟩ := am_bind hp
      refine am_Rn.call am_h75 (mj := 78) (As := [.ref 1, .int v2, .int v3]) (F' := (105, [(0, .ref 1), (1, .int v1), (2, .int v2), (3, .int v3)], [])) (M' := am_m78) (r := some (.int r16.1)) (S1 := (am_sh, r16.2, hm, g)) rfl am_h78 rfl (ezG_comesTo (by omega) v2 v3 h _ h_r16) ?_
      refine am_Rn.ite am_h75 (c := r16.1 = 0) (t := 112) (f := 108) (lv := [(0, .ref 1), (1, .int v1), (2, .int v2), (3, .int v3)]) (st := []) (S' := (am_sh, r16.2, hm, g)) rfl hp (fun hc17 hp => ?_) (fun hc17 hp => ?_)
      · refine am_Rn.run am_h75 1 (F' := (113, [(0, .ref 1), (1, .int v1), (2, .int v2), (3, .int v3)], [.int 0])) (S' := (am_sh, r16.2, hm, g)) rfl ?_
        cases hp
        exact am_Rn.ret am_h75 rfl
      · refine am_Rn.run am_h75 2 (F' := (113, [(0, .ref 1), (1, .int v1), (2, .int v2), (3, .int v3)], [.int 1])) (S' := (am_sh, r16.2, hm, g)) rfl ?_
        cases hp
        exact am_Rn.ret am_h75 rfl
  refine am_ite hp (fun hc18 hp => ?_) (fun hc18 hp => ?_)
  · rw [show am_sw v1 6 155 [36, 69, 91, 114, 150] = 114 from by subst hc18; rfl]
    refine am_Rn.run am_h75 2 (F' := (116, [(0, .ref 1), (1, .int v1), (2, .int v2), (3, .int v3)], [.int v3, .int v2])) (S' := (am_sh, h, hm, g)) rfl ?_
    refine am_Rn.ite am_h75 (c := v2 = v3) (t := 148) (f := 119) (lv := [(0, .ref 1), (1, .int v1), (2, .int v2), (3, .int v3)]) (st := []) (S' := (am_sh, h, hm, g)) rfl hp (fun hc19 hp => ?_) (fun hc19 hp => ?_)
    · refine am_Rn.run am_h75 1 (F' := (149, [(0, .ref 1), (1, .int v1), (2, .int v2), (3, .int v3)], [.int 0])) (S' := (am_sh, h, hm, g)) rfl ?_
      cases hp
      exact am_Rn.ret am_h75 rfl
    · refine am_Rn.run am_h75 2 (F' := (121, [(0, .ref 1), (1, .int v1), (2, .int v2), (3, .int v3)], [.int v2, .ref 1])) (S' := (am_sh, h, hm, g)) rfl ?_
      obtain ⟨r20, h_r20, hp⟩ := am_bind hp
      refine am_Rn.call am_h75 (mj := 77) (As := [.ref 1, .int v2]) (F' := (124, [(0, .ref 1), (1, .int v1), (2, .int v2), (3, .int v3)], [])) (M' := am_m77) (r := some (.int r20)) (S1 := (am_sh, h, hm, g)) rfl am_h77 rfl (ezG_isNowOn (by omega) v2 h _ h_r20) ?_
      refine am_Rn.ite am_h75 (c := r20 = 0) (t := 148) (f := 127) (lv := [(0, .ref 1), (1, .int v1), (2, .int v2), (3, .int v3)]) (st := []) (S' := (am_sh, h, hm, g)) rfl hp (fun hc21 hp => ?_) (fun hc21 hp => ?_)
      · refine am_Rn.run am_h75 1 (F' := (149, [(0, .ref 1), (1, .int v1), (2, .int v2), (3, .int v3)], [.int 0])) (S' := (am_sh, h, hm, g)) rfl ?_
        cases hp
        exact am_Rn.ret am_h75 rfl
      · refine am_Rn.run am_h75 2 (F' := (129, [(0, .ref 1), (1, .int v1), (2, .int v2), (3, .int v3)], [.int v3, .ref 1])) (S' := (am_sh, h, hm, g)) rfl ?_
        obtain ⟨r22, h_r22, hp⟩ := am_bind hp
        refine am_Rn.call am_h75 (mj := 77) (As := [.ref 1, .int v3]) (F' := (132, [(0, .ref 1), (1, .int v1), (2, .int v2), (3, .int v3)], [])) (M' := am_m77) (r := some (.int r22)) (S1 := (am_sh, h, hm, g)) rfl am_h77 rfl (ezG_isNowOn (by omega) v3 h _ h_r22) ?_
        refine am_Rn.ite am_h75 (c := r22 = 0) (t := 148) (f := 135) (lv := [(0, .ref 1), (1, .int v1), (2, .int v2), (3, .int v3)]) (st := []) (S' := (am_sh, h, hm, g)) rfl hp (fun hc23 hp => ?_) (fun hc23 hp => ?_)
        · refine am_Rn.run am_h75 1 (F' := (149, [(0, .ref 1), (1, .int v1), (2, .int v2), (3, .int v3)], [.int 0])) (S' := (am_sh, h, hm, g)) rfl ?_
          cases hp
          exact am_Rn.ret am_h75 rfl
        · refine am_Rn.run am_h75 3 (F' := (138, [(0, .ref 1), (1, .int v1), (2, .int v2), (3, .int v3)], [.int v3, .int v2, .ref 1])) (S' := (am_sh, h, hm, g)) rfl ?_
          obtain ⟨r24, h_r24, hp⟩ := am_bind hp
          refine am_Rn.call am_h75 (mj := 80) (As := [.ref 1, .int v2, .int v3]) (F' := (141, [(0, .ref 1), (1, .int v1), (2, .int v2), (3, .int v3)], [])) (M' := am_m80) (r := some (.int r24.1)) (S1 := (am_sh, r24.2, hm, g)) rfl am_h80 rfl (ezG_hits (by omega) v2 v3 h _ h_r24) ?_
          refine am_Rn.ite am_h75 (c := r24.1 = 0) (t := 148) (f := 144) (lv := [(0, .ref 1), (1, .int v1), (2, .int v2), (3, .int v3)]) (st := []) (S' := (am_sh, r24.2, hm, g)) rfl hp (fun hc25 hp => ?_) (fun hc25 hp => ?_)
          · refine am_Rn.run am_h75 1 (F' := (149, [(0, .ref 1), (1, .int v1), (2, .int v2), (3, .int v3)], [.int 0])) (S' := (am_sh, r24.2, hm, g)) rfl ?_
            cases hp
            exact am_Rn.ret am_h75 rfl
          · refine am_Rn.run am_h75 2 (F' := (149, [(0, .ref 1), (1, .int v1), (2, .int v2), (3, .int v3)], [.int 1])) (S' := (am_sh, r24.2, hm, g)) rfl ?_
            cases hp
            exact am_Rn.ret am_h75 rfl
  refine am_ite hp (fun hc26 hp => ?_) (fun hc26 hp => ?_)
  · rw [show am_sw v1 6 155 [36, 69, 91, 114, 150] = 150 from by subst hc26; rfl]
    refine am_Rn.run am_h75 1 (F' := (151, [(0, .ref 1), (1, .int v1), (2, .int v2), (3, .int v3)], [.ref 1])) (S' := (am_sh, h, hm, g)) rfl ?_
    obtain ⟨r27, h_r27, hp⟩ := am_bind hp
    refine am_Rn.call am_h75 (mj := 81) (As := [.ref 1]) (F' := (154, [(0, .ref 1), (1, .int v1), (2, .int v2), (3, .int v3)], [])) (M' := am_m81) (r := some (.int r27.1)) (S1 := (am_sh, r27.2, hm, g)) rfl am_h81 rfl (ezG_endsBeat (by omega) h _ h_r27) ?_
    cases hp
    exact am_Rn.ret am_h75 rfl
  · rw [show am_sw v1 6 155 [36, 69, 91, 114, 150] = 155 from (if_neg hc1).trans ((if_neg hc8).trans ((if_neg hc13).trans ((if_neg hc18).trans ((if_neg hc26).trans (rfl)))))]
    refine am_Rn.run am_h75 1 (F' := (156, [(0, .ref 1), (1, .int v1), (2, .int v2), (3, .int v3)], [.int 1])) (S' := (am_sh, h, hm, g)) rfl ?_
    cases hp
    exact am_Rn.ret am_h75 rfl
/-- SixHands.played(I)I [0] -/
def zH_played_L24 : Nat → Nat → Int32 → (Nat → Nat → Int32) → Option (Int32 × (Nat → Nat → Int32))
  | 0, _, _, _ => none
  | n + 1, v2, v3, h => if v3 < (h v2 0) then (am_ix 50 v3 (am_ix 50 v3 (am_ix 50 v3 ((zG_plays (h (v2 + 1) (v3.toNatClampNeg)) (h (v2 + 2) (v3.toNatClampNeg)) (h (v2 + 3) (v3.toNatClampNeg)) h).bind fun r10 => if r10.1 = 0 then (some ((v3, r10.2))) else (zH_played_L24 n v2 (v3 + 1) r10.2))))) else (some (((-1), h)))
set_option maxRecDepth 20000 in
theorem ezH_played_L24 {d : Nat} (hd : 3 ≤ d) (R : Int32 × (Nat → Nat → Int32)) : ∀ (n : Nat) (v2 : Nat) (v3 : Int32) (h : (Nat → Nat → Int32)), zK v2 → zH_played_L24 n v2 v3 h = some R → am_Rn 83 Xs am_P d 116 (24, [(0, .ref 0), (2, .ref v2), (3, .int v3)], []) (am_sh, h, hm, g) (some (.int R.1), (am_sh, R.2, hm, g))
  | 0, _, _, _, _, hp => by cases hp
  | n + 1, v2, v3, h, hk_v2, hp => by
    obtain ⟨d, rfl⟩ : ∃ k, d = k + 1 := ⟨d - 1, by omega⟩
    unfold zH_played_L24 at hp
    refine am_Rn.run am_h116 3 (F' := (29, [(0, .ref 0), (2, .ref v2), (3, .int v3)], [.int (h v2 0), .int v3])) (S' := (am_sh, h, hm, g)) (by rcases hk_v2 with rfl | rfl | rfl | rfl | rfl <;> rfl) ?_
    refine am_Rn.ite am_h116 (c := v3 < (h v2 0)) (t := 32) (f := 68) (lv := [(0, .ref 0), (2, .ref v2), (3, .int v3)]) (st := []) (S' := (am_sh, h, hm, g)) (by rcases hk_v2 with rfl | rfl | rfl | rfl | rfl <;> rfl) hp (fun hc6 hp => ?_) (fun hc6 hp => ?_)
    · refine am_Rn.run am_h116 5 (F' := (41, [(0, .ref 0), (2, .ref v2), (3, .int v3)], [.int v3, .ref (v2 + 1), .ref 1])) (S' := (am_sh, h, hm, g)) (by rcases hk_v2 with rfl | rfl | rfl | rfl | rfl <;> rfl) ?_
      obtain ⟨hn7, hp⟩ := am_ix_e hp
      refine am_Rn.stepG am_h116 (c := v3 < 0 ∨ 50 ≤ v3.toNatClampNeg) (F' := (42, [(0, .ref 0), (2, .ref v2), (3, .int v3)], [.int (h (v2 + 1) (v3.toNatClampNeg)), .ref 1])) (S' := (am_sh, h, hm, g)) (by rcases hk_v2 with rfl | rfl | rfl | rfl | rfl <;> rfl) hn7 ?_
      refine am_Rn.run am_h116 3 (F' := (47, [(0, .ref 0), (2, .ref v2), (3, .int v3)], [.int v3, .ref (v2 + 2), .int (h (v2 + 1) (v3.toNatClampNeg)), .ref 1])) (S' := (am_sh, h, hm, g)) (by rcases hk_v2 with rfl | rfl | rfl | rfl | rfl <;> rfl) ?_
      obtain ⟨hn8, hp⟩ := am_ix_e hp
      refine am_Rn.stepG am_h116 (c := v3 < 0 ∨ 50 ≤ v3.toNatClampNeg) (F' := (48, [(0, .ref 0), (2, .ref v2), (3, .int v3)], [.int (h (v2 + 2) (v3.toNatClampNeg)), .int (h (v2 + 1) (v3.toNatClampNeg)), .ref 1])) (S' := (am_sh, h, hm, g)) (by rcases hk_v2 with rfl | rfl | rfl | rfl | rfl <;> rfl) hn8 ?_
      refine am_Rn.run am_h116 3 (F' := (53, [(0, .ref 0), (2, .ref v2), (3, .int v3)], [.int v3, .ref (v2 + 3), .int (h (v2 + 2) (v3.toNatClampNeg)), .int (h (v2 + 1) (v3.toNatClampNeg)), .ref 1])) (S' := (am_sh, h, hm, g)) (by rcases hk_v2 with rfl | rfl | rfl | rfl | rfl <;> rfl) ?_
      obtain ⟨hn9, hp⟩ := am_ix_e hp
      refine am_Rn.stepG am_h116 (c := v3 < 0 ∨ 50 ≤ v3.toNatClampNeg) (F' := (54, [(0, .ref 0), (2, .ref v2), (3, .int v3)], [.int (h (v2 + 3) (v3.toNatClampNeg)), .int (h (v2 + 2) (v3.toNatClampNeg)), .int (h (v2 + 1) (v3.toNatClampNeg)), .ref 1])) (S' := (am_sh, h, hm, g)) (by rcases hk_v2 with rfl | rfl | rfl | rfl | rfl <;> rfl) hn9 ?_
      obtain ⟨r10, h_r10, hp⟩ := am_bind hp
      refine am_Rn.call am_h116 (mj := 75) (As := [.ref 1, .int (h (v2 + 1) (v3.toNatClampNeg)), .int (h (v2 + 2) (v3.toNatClampNeg)), .int (h (v2 + 3) (v3.toNatClampNeg))]) (F' := (57, [(0, .ref 0), (2, .ref v2), (3, .int v3)], [])) (M' := am_m75) (r := some (.int r10.1)) (S1 := (am_sh, r10.2, hm, g)) (by rcases hk_v2 with rfl | rfl | rfl | rfl | rfl <;> rfl) am_h75 rfl (ezG_plays (by omega) (h (v2 + 1) (v3.toNatClampNeg)) (h (v2 + 2) (v3.toNatClampNeg)) (h (v2 + 3) (v3.toNatClampNeg)) h _ h_r10) ?_
      refine am_Rn.ite am_h116 (c := r10.1 = 0) (t := 60) (f := 62) (lv := [(0, .ref 0), (2, .ref v2), (3, .int v3)]) (st := []) (S' := (am_sh, r10.2, hm, g)) (by rcases hk_v2 with rfl | rfl | rfl | rfl | rfl <;> rfl) hp (fun hc11 hp => ?_) (fun hc11 hp => ?_)
      · refine am_Rn.run am_h116 1 (F' := (61, [(0, .ref 0), (2, .ref v2), (3, .int v3)], [.int v3])) (S' := (am_sh, r10.2, hm, g)) (by rcases hk_v2 with rfl | rfl | rfl | rfl | rfl <;> rfl) ?_
        cases hp
        exact am_Rn.ret am_h116 (by rcases hk_v2 with rfl | rfl | rfl | rfl | rfl <;> rfl)
      · refine am_Rn.run am_h116 2 (F' := (24, [(3, .int (v3 + 1)), (0, .ref 0), (2, .ref v2)], [])) (S' := (am_sh, r10.2, hm, g)) (by rcases hk_v2 with rfl | rfl | rfl | rfl | rfl <;> rfl) ?_
        refine am_Rn.sub [1, 2, 0] rfl rfl ?_
        exact ezH_played_L24 hd R n v2 (v3 + 1) r10.2 hk_v2 hp
    · refine am_Rn.run am_h116 1 (F' := (69, [(0, .ref 0), (2, .ref v2), (3, .int v3)], [.int (-1)])) (S' := (am_sh, h, hm, g)) (by rcases hk_v2 with rfl | rfl | rfl | rfl | rfl <;> rfl) ?_
      cases hp
      exact am_Rn.ret am_h116 (by rcases hk_v2 with rfl | rfl | rfl | rfl | rfl <;> rfl)
def zH_played (v1 : Int32) (h : (Nat → Nat → Int32)) : Option (Int32 × (Nat → Nat → Int32)) := am_b (zH_isText v1 h) fun r1 => if r1 = 0 then (some (((-2), h))) else ((zH_changed h).bind fun r3 => am_ix 5 v1 (am_b (20 + 7 * v1.toNatClampNeg) fun k5 => zH_played_L24 am_N k5 0 r3))
set_option maxRecDepth 20000 in
theorem ezH_played {d : Nat} (hd : 3 ≤ d) (v1 : Int32) (h : (Nat → Nat → Int32)) (R : Int32 × (Nat → Nat → Int32)) (hp : zH_played v1 h = some R) : am_Ev 83 Xs am_P d 116 [.ref 0, .int v1] (am_sh, h, hm, g) (some (.int R.1), (am_sh, R.2, hm, g)) := by
  obtain ⟨d, rfl⟩ : ∃ k, d = k + 1 := ⟨d - 1, by omega⟩
  unfold zH_played at hp
  show am_Rn 83 Xs am_P _ 116 (0, [(0, .ref 0), (1, .int v1)], []) _ _
  refine am_Rn.run am_h116 2 (F' := (2, [(0, .ref 0), (1, .int v1)], [.int v1, .ref 0])) (S' := (am_sh, h, hm, g)) rfl ?_
  obtain ⟨r1, h_r1, hp⟩ := am_b_e hp
  refine am_Rn.call am_h116 (mj := 137) (As := [.ref 0, .int v1]) (F' := (5, [(0, .ref 0), (1, .int v1)], [])) (M' := am_m137) (r := some (.int r1)) (S1 := (am_sh, h, hm, g)) rfl am_h137 rfl (by subst h_r1; exact (ezH_isText (by omega) v1 h)) ?_
  refine am_Rn.ite am_h116 (c := r1 = 0) (t := 8) (f := 11) (lv := [(0, .ref 0), (1, .int v1)]) (st := []) (S' := (am_sh, h, hm, g)) rfl hp (fun hc2 hp => ?_) (fun hc2 hp => ?_)
  · refine am_Rn.run am_h116 1 (F' := (10, [(0, .ref 0), (1, .int v1)], [.int (-2)])) (S' := (am_sh, h, hm, g)) rfl ?_
    cases hp
    exact am_Rn.ret am_h116 rfl
  · refine am_Rn.run am_h116 1 (F' := (12, [(0, .ref 0), (1, .int v1)], [.ref 0])) (S' := (am_sh, h, hm, g)) rfl ?_
    obtain ⟨r3, h_r3, hp⟩ := am_bind hp
    refine am_Rn.call am_h116 (mj := 141) (As := [.ref 0]) (F' := (15, [(0, .ref 0), (1, .int v1)], [])) (M' := am_m141) (r := none) (S1 := (am_sh, r3, hm, g)) rfl am_h141 rfl (ezH_changed (by omega) h _ h_r3) ?_
    refine am_Rn.run am_h116 3 (F' := (20, [(0, .ref 0), (1, .int v1)], [.int v1, .ref 19])) (S' := (am_sh, r3, hm, g)) rfl ?_
    obtain ⟨hn4, hp⟩ := am_ix_e hp
    obtain ⟨k5, h_k5, hp⟩ := am_b_e hp
    have hk_k5 := zK_of hn4 h_k5
    refine am_Rn.step am_h116 (F' := (21, [(0, .ref 0), (1, .int v1)], [.ref k5])) (S' := (am_sh, r3, hm, g)) (by subst h_k5; rcases am_five hn4 with rfl | rfl | rfl | rfl | rfl <;> rfl) ?_
    refine am_Rn.run am_h116 3 (F' := (24, [(3, .int 0), (2, .ref k5), (0, .ref 0), (1, .int v1)], [])) (S' := (am_sh, r3, hm, g)) (by rcases hk_k5 with rfl | rfl | rfl | rfl | rfl <;> rfl) ?_
    refine am_Rn.sub [2, 1, 0] rfl rfl ?_
    exact ezH_played_L24 hd R am_N k5 0 r3 hk_k5 hp
/-- SixHands$Stage.emptyPlay()I [1] -/
def zG_emptyPlay (h : (Nat → Nat → Int32)) : Int32 × (Nat → Nat → Int32) := am_b (h 1 13) fun x1 => am_b (va_up h 1 (upd (h 1) 13 0)) fun h2 => am_b (va_up h2 6 (zfill 6 0 (h2 6))) fun h3 => am_b (va_up h3 7 (zfill 6 (-1) (h3 7))) fun h4 => am_b (va_up h4 8 (zfill 144 (-1) (h4 8))) fun h5 => am_b (va_up h5 9 (zfill 144 0 (h5 9))) fun h6 => (x1, h6)
set_option maxRecDepth 20000 in
theorem ezG_emptyPlay {d : Nat} (hd : 1 ≤ d) (h : (Nat → Nat → Int32)) : am_Ev 83 Xs am_P d 74 [.ref 1] (am_sh, h, hm, g) (some (.int (((zG_emptyPlay h)).1)), (am_sh, ((zG_emptyPlay h)).2, hm, g)) := by
  obtain ⟨R, hp⟩ : ∃ R, zG_emptyPlay h = R := ⟨_, rfl⟩
  rw [hp]
  obtain ⟨d, rfl⟩ : ∃ k, d = k + 1 := ⟨d - 1, by omega⟩
  unfold zG_emptyPlay at hp
  show am_Rn 83 Xs am_P _ 74 (0, [(0, .ref 1)], []) _ _
  obtain ⟨x1, h_x1, hp⟩ := am_b_e hp
  obtain ⟨h2, h_h2, hp⟩ := am_b_e hp
  refine am_Rn.run am_h74 9 (F' := (15, [(1, .int x1), (0, .ref 1)], [.int 0, .ref 6])) (S' := (am_sh, h2, hm, g)) (by subst h_x1; subst h_h2; rfl) ?_
  obtain ⟨h3, h_h3, hp⟩ := am_b_e hp
  refine am_Rn.call am_h74 (mj := 6) (As := [.ref 6, .int 0]) (F' := (18, [(1, .int x1), (0, .ref 1)], [])) (M' := am_m6) (r := none) (S1 := (am_sh, h3, hm, g)) rfl am_h6 rfl (by subst h_h3; exact ezD_fill (n := 6) rfl (by decide)) ?_
  refine am_Rn.run am_h74 3 (F' := (23, [(1, .int x1), (0, .ref 1)], [.int (-1), .ref 7])) (S' := (am_sh, h3, hm, g)) rfl ?_
  obtain ⟨h4, h_h4, hp⟩ := am_b_e hp
  refine am_Rn.call am_h74 (mj := 6) (As := [.ref 7, .int (-1)]) (F' := (26, [(1, .int x1), (0, .ref 1)], [])) (M' := am_m6) (r := none) (S1 := (am_sh, h4, hm, g)) rfl am_h6 rfl (by subst h_h4; exact ezD_fill (n := 6) rfl (by decide)) ?_
  refine am_Rn.run am_h74 3 (F' := (31, [(1, .int x1), (0, .ref 1)], [.int (-1), .ref 8])) (S' := (am_sh, h4, hm, g)) rfl ?_
  obtain ⟨h5, h_h5, hp⟩ := am_b_e hp
  refine am_Rn.call am_h74 (mj := 6) (As := [.ref 8, .int (-1)]) (F' := (34, [(1, .int x1), (0, .ref 1)], [])) (M' := am_m6) (r := none) (S1 := (am_sh, h5, hm, g)) rfl am_h6 rfl (by subst h_h5; exact ezD_fill (n := 144) rfl (by decide)) ?_
  refine am_Rn.run am_h74 3 (F' := (39, [(1, .int x1), (0, .ref 1)], [.int 0, .ref 9])) (S' := (am_sh, h5, hm, g)) rfl ?_
  obtain ⟨h6, h_h6, hp⟩ := am_b_e hp
  refine am_Rn.call am_h74 (mj := 6) (As := [.ref 9, .int 0]) (F' := (42, [(1, .int x1), (0, .ref 1)], [])) (M' := am_m6) (r := none) (S1 := (am_sh, h6, hm, g)) rfl am_h6 rfl (by subst h_h6; exact ezD_fill (n := 144) rfl (by decide)) ?_
  refine am_Rn.run am_h74 1 (F' := (43, [(1, .int x1), (0, .ref 1)], [.int x1])) (S' := (am_sh, h6, hm, g)) rfl ?_
  subst hp
  exact am_Rn.ret am_h74 rfl
/-- SixHands.clear()I [0] -/
def zH_clear (h : (Nat → Nat → Int32)) : Option (Int32 × (Nat → Nat → Int32)) := (zH_changed h).bind fun r1 => am_b (zG_emptyPlay r1) fun r2 => some ((r2.1, r2.2))
set_option maxRecDepth 20000 in
theorem ezH_clear {d : Nat} (hd : 2 ≤ d) (h : (Nat → Nat → Int32)) (R : Int32 × (Nat → Nat → Int32)) (hp : zH_clear h = some R) : am_Ev 83 Xs am_P d 117 [.ref 0] (am_sh, h, hm, g) (some (.int R.1), (am_sh, R.2, hm, g)) := by
  obtain ⟨d, rfl⟩ : ∃ k, d = k + 1 := ⟨d - 1, by omega⟩
  unfold zH_clear at hp
  show am_Rn 83 Xs am_P _ 117 (0, [(0, .ref 0)], []) _ _
  refine am_Rn.run am_h117 1 (F' := (1, [(0, .ref 0)], [.ref 0])) (S' := (am_sh, h, hm, g)) rfl ?_
  obtain ⟨r1, h_r1, hp⟩ := am_bind hp
  refine am_Rn.call am_h117 (mj := 141) (As := [.ref 0]) (F' := (4, [(0, .ref 0)], [])) (M' := am_m141) (r := none) (S1 := (am_sh, r1, hm, g)) rfl am_h141 rfl (ezH_changed (by omega) h _ h_r1) ?_
  refine am_Rn.run am_h117 2 (F' := (8, [(0, .ref 0)], [.ref 1])) (S' := (am_sh, r1, hm, g)) rfl ?_
  obtain ⟨r2, h_r2, hp⟩ := am_b_e hp
  refine am_Rn.call am_h117 (mj := 74) (As := [.ref 1]) (F' := (11, [(0, .ref 0)], [])) (M' := am_m74) (r := some (.int r2.1)) (S1 := (am_sh, r2.2, hm, g)) rfl am_h74 rfl (by subst h_r2; exact (ezG_emptyPlay (by omega) r1)) ?_
  cases hp
  exact am_Rn.ret am_h117 rfl
/-- SixHands.isFigure(I)Z [0] -/
def zH_isFigure (v1 : Int32) (h : (Nat → Nat → Int32)) : Int32 := if v1 < 0 then (0) else (if v1 < (h 1 4) then (1) else (0))
set_option maxRecDepth 20000 in
theorem ezH_isFigure {d : Nat} (hd : 0 ≤ d) (v1 : Int32) (h : (Nat → Nat → Int32)) : am_Ev 83 Xs am_P d 136 [.ref 0, .int v1] (am_sh, h, hm, g) (some (.int ((zH_isFigure v1 h))), (am_sh, h, hm, g)) := by
  obtain ⟨R, hp⟩ : ∃ R, zH_isFigure v1 h = R := ⟨_, rfl⟩
  rw [hp]
  unfold zH_isFigure at hp
  show am_Rn 83 Xs am_P _ 136 (0, [(0, .ref 0), (1, .int v1)], []) _ _
  refine am_Rn.run am_h136 1 (F' := (1, [(0, .ref 0), (1, .int v1)], [.int v1])) (S' := (am_sh, h, hm, g)) rfl ?_
  refine am_Rn.ite am_h136 (c := v1 < 0) (t := 19) (f := 4) (lv := [(0, .ref 0), (1, .int v1)]) (st := []) (S' := (am_sh, h, hm, g)) rfl hp (fun hc1 hp => ?_) (fun hc1 hp => ?_)
  · refine am_Rn.run am_h136 1 (F' := (20, [(0, .ref 0), (1, .int v1)], [.int 0])) (S' := (am_sh, h, hm, g)) rfl ?_
    subst hp
    exact am_Rn.ret am_h136 rfl
  · refine am_Rn.run am_h136 4 (F' := (12, [(0, .ref 0), (1, .int v1)], [.int (h 1 4), .int v1])) (S' := (am_sh, h, hm, g)) rfl ?_
    refine am_Rn.ite am_h136 (c := v1 < (h 1 4)) (t := 15) (f := 19) (lv := [(0, .ref 0), (1, .int v1)]) (st := []) (S' := (am_sh, h, hm, g)) rfl hp (fun hc2 hp => ?_) (fun hc2 hp => ?_)
    · refine am_Rn.run am_h136 2 (F' := (20, [(0, .ref 0), (1, .int v1)], [.int 1])) (S' := (am_sh, h, hm, g)) rfl ?_
      subst hp
      exact am_Rn.ret am_h136 rfl
    · refine am_Rn.run am_h136 1 (F' := (20, [(0, .ref 0), (1, .int v1)], [.int 0])) (S' := (am_sh, h, hm, g)) rfl ?_
      subst hp
      exact am_Rn.ret am_h136 rfl
/-- SixHands.isBeat(I)Z [0] -/
def zH_isBeat (v1 : Int32) (h : (Nat → Nat → Int32)) : Int32 := if v1 < 0 then (0) else (if v1 < (h 1 13) then (1) else (0))
set_option maxRecDepth 20000 in
theorem ezH_isBeat {d : Nat} (hd : 0 ≤ d) (v1 : Int32) (h : (Nat → Nat → Int32)) : am_Ev 83 Xs am_P d 135 [.ref 0, .int v1] (am_sh, h, hm, g) (some (.int ((zH_isBeat v1 h))), (am_sh, h, hm, g)) := by
  obtain ⟨R, hp⟩ : ∃ R, zH_isBeat v1 h = R := ⟨_, rfl⟩
  rw [hp]
  unfold zH_isBeat at hp
  show am_Rn 83 Xs am_P _ 135 (0, [(0, .ref 0), (1, .int v1)], []) _ _
  refine am_Rn.run am_h135 1 (F' := (1, [(0, .ref 0), (1, .int v1)], [.int v1])) (S' := (am_sh, h, hm, g)) rfl ?_
  refine am_Rn.ite am_h135 (c := v1 < 0) (t := 19) (f := 4) (lv := [(0, .ref 0), (1, .int v1)]) (st := []) (S' := (am_sh, h, hm, g)) rfl hp (fun hc1 hp => ?_) (fun hc1 hp => ?_)
  · refine am_Rn.run am_h135 1 (F' := (20, [(0, .ref 0), (1, .int v1)], [.int 0])) (S' := (am_sh, h, hm, g)) rfl ?_
    subst hp
    exact am_Rn.ret am_h135 rfl
  · refine am_Rn.run am_h135 4 (F' := (12, [(0, .ref 0), (1, .int v1)], [.int (h 1 13), .int v1])) (S' := (am_sh, h, hm, g)) rfl ?_
    refine am_Rn.ite am_h135 (c := v1 < (h 1 13)) (t := 15) (f := 19) (lv := [(0, .ref 0), (1, .int v1)]) (st := []) (S' := (am_sh, h, hm, g)) rfl hp (fun hc2 hp => ?_) (fun hc2 hp => ?_)
    · refine am_Rn.run am_h135 2 (F' := (20, [(0, .ref 0), (1, .int v1)], [.int 1])) (S' := (am_sh, h, hm, g)) rfl ?_
      subst hp
      exact am_Rn.ret am_h135 rfl
    · refine am_Rn.run am_h135 1 (F' := (20, [(0, .ref 0), (1, .int v1)], [.int 0])) (S' := (am_sh, h, hm, g)) rfl ?_
      subst hp
      exact am_Rn.ret am_h135 rfl
/-- SixHands.at(II)I [0] -/
def zH_at (v1 : Int32) (v2 : Int32) (h : (Nat → Nat → Int32)) : Option (Int32) := am_b (zH_isFigure v2 h) fun r1 => if r1 = 0 then (some (-2)) else (if v1 = (-1) then (am_ix 6 v2 (some (h 7 (v2.toNatClampNeg)))) else (am_b (zH_isBeat v1 h) fun r5 => if r5 = 0 then (some (-2)) else (am_ix 144 ((v1 * 6) + v2) (some (h 8 (((v1 * 6) + v2).toNatClampNeg))))))
set_option maxRecDepth 20000 in
theorem ezH_at {d : Nat} (hd : 1 ≤ d) (v1 : Int32) (v2 : Int32) (h : (Nat → Nat → Int32)) (R : Int32) (hp : zH_at v1 v2 h = some R) : am_Ev 83 Xs am_P d 118 [.ref 0, .int v1, .int v2] (am_sh, h, hm, g) (some (.int R), (am_sh, h, hm, g)) := by
  obtain ⟨d, rfl⟩ : ∃ k, d = k + 1 := ⟨d - 1, by omega⟩
  unfold zH_at at hp
  show am_Rn 83 Xs am_P _ 118 (0, [(0, .ref 0), (1, .int v1), (2, .int v2)], []) _ _
  refine am_Rn.run am_h118 2 (F' := (2, [(0, .ref 0), (1, .int v1), (2, .int v2)], [.int v2, .ref 0])) (S' := (am_sh, h, hm, g)) rfl ?_
  obtain ⟨r1, h_r1, hp⟩ := am_b_e hp
  refine am_Rn.call am_h118 (mj := 136) (As := [.ref 0, .int v2]) (F' := (5, [(0, .ref 0), (1, .int v1), (2, .int v2)], [])) (M' := am_m136) (r := some (.int r1)) (S1 := (am_sh, h, hm, g)) rfl am_h136 rfl (by subst h_r1; exact (ezH_isFigure (by omega) v2 h)) ?_
  refine am_Rn.ite am_h118 (c := r1 = 0) (t := 8) (f := 11) (lv := [(0, .ref 0), (1, .int v1), (2, .int v2)]) (st := []) (S' := (am_sh, h, hm, g)) rfl hp (fun hc2 hp => ?_) (fun hc2 hp => ?_)
  · refine am_Rn.run am_h118 1 (F' := (10, [(0, .ref 0), (1, .int v1), (2, .int v2)], [.int (-2)])) (S' := (am_sh, h, hm, g)) rfl ?_
    cases hp
    exact am_Rn.ret am_h118 rfl
  · refine am_Rn.run am_h118 2 (F' := (13, [(0, .ref 0), (1, .int v1), (2, .int v2)], [.int (-1), .int v1])) (S' := (am_sh, h, hm, g)) rfl ?_
    refine am_Rn.ite am_h118 (c := v1 = (-1)) (t := 16) (f := 26) (lv := [(0, .ref 0), (1, .int v1), (2, .int v2)]) (st := []) (S' := (am_sh, h, hm, g)) rfl hp (fun hc3 hp => ?_) (fun hc3 hp => ?_)
    · refine am_Rn.run am_h118 4 (F' := (24, [(0, .ref 0), (1, .int v1), (2, .int v2)], [.int v2, .ref 7])) (S' := (am_sh, h, hm, g)) rfl ?_
      obtain ⟨hn4, hp⟩ := am_ix_e hp
      refine am_Rn.stepG am_h118 (c := v2 < 0 ∨ 6 ≤ v2.toNatClampNeg) (F' := (25, [(0, .ref 0), (1, .int v1), (2, .int v2)], [.int (h 7 (v2.toNatClampNeg))])) (S' := (am_sh, h, hm, g)) rfl hn4 ?_
      cases hp
      exact am_Rn.ret am_h118 rfl
    · refine am_Rn.run am_h118 2 (F' := (28, [(0, .ref 0), (1, .int v1), (2, .int v2)], [.int v1, .ref 0])) (S' := (am_sh, h, hm, g)) rfl ?_
      obtain ⟨r5, h_r5, hp⟩ := am_b_e hp
      refine am_Rn.call am_h118 (mj := 135) (As := [.ref 0, .int v1]) (F' := (31, [(0, .ref 0), (1, .int v1), (2, .int v2)], [])) (M' := am_m135) (r := some (.int r5)) (S1 := (am_sh, h, hm, g)) rfl am_h135 rfl (by subst h_r5; exact (ezH_isBeat (by omega) v1 h)) ?_
      refine am_Rn.ite am_h118 (c := r5 = 0) (t := 51) (f := 34) (lv := [(0, .ref 0), (1, .int v1), (2, .int v2)]) (st := []) (S' := (am_sh, h, hm, g)) rfl hp (fun hc6 hp => ?_) (fun hc6 hp => ?_)
      · refine am_Rn.run am_h118 1 (F' := (53, [(0, .ref 0), (1, .int v1), (2, .int v2)], [.int (-2)])) (S' := (am_sh, h, hm, g)) rfl ?_
        cases hp
        exact am_Rn.ret am_h118 rfl
      · refine am_Rn.run am_h118 8 (F' := (47, [(0, .ref 0), (1, .int v1), (2, .int v2)], [.int ((v1 * 6) + v2), .ref 8])) (S' := (am_sh, h, hm, g)) rfl ?_
        obtain ⟨hn7, hp⟩ := am_ix_e hp
        refine am_Rn.stepG am_h118 (c := ((v1 * 6) + v2) < 0 ∨ 144 ≤ ((v1 * 6) + v2).toNatClampNeg) (F' := (48, [(0, .ref 0), (1, .int v1), (2, .int v2)], [.int (h 8 (((v1 * 6) + v2).toNatClampNeg))])) (S' := (am_sh, h, hm, g)) rfl hn7 ?_
        refine am_Rn.run am_h118 1 (F' := (53, [(0, .ref 0), (1, .int v1), (2, .int v2)], [.int (h 8 (((v1 * 6) + v2).toNatClampNeg))])) (S' := (am_sh, h, hm, g)) rfl ?_
        cases hp
        exact am_Rn.ret am_h118 rfl
/-- SixHands$Stage.hands()I [1] -/
def zG_hands (h : (Nat → Nat → Int32)) : Int32 := 2 * (h 1 1)
set_option maxRecDepth 20000 in
theorem ezG_hands {d : Nat} (hd : 0 ≤ d) (h : (Nat → Nat → Int32)) : am_Ev 83 Xs am_P d 82 [.ref 1] (am_sh, h, hm, g) (some (.int ((zG_hands h))), (am_sh, h, hm, g)) := by
  obtain ⟨R, hp⟩ : ∃ R, zG_hands h = R := ⟨_, rfl⟩
  rw [hp]
  unfold zG_hands at hp
  show am_Rn 83 Xs am_P _ 82 (0, [(0, .ref 1)], []) _ _
  refine am_Rn.run am_h82 4 (F' := (6, [(0, .ref 1)], [.int (2 * (h 1 1))])) (S' := (am_sh, h, hm, g)) rfl ?_
  subst hp
  exact am_Rn.ret am_h82 rfl
/-- SixHands.hold(III)Z [0] -/
def zH_hold (v1 : Int32) (v2 : Int32) (v3 : Int32) (h : (Nat → Nat → Int32)) : Option (Int32 × (Nat → Nat → Int32)) := am_b (zH_isBeat v1 h) fun r1 => if r1 = 0 then (some ((0, h))) else (am_b (zH_isFigure v2 h) fun r3 => if r3 = 0 then (some ((0, h))) else (if v3 < 0 then (some ((0, h))) else (am_b (zG_hands h) fun r6 => if v3 < ((1 : Int32) <<< (r6 &&& 31)) then (am_ix 144 ((v1 * 6) + v2) (am_b (va_up h 9 (upd (h 9) (((v1 * 6) + v2).toNatClampNeg) v3)) fun h9 => some ((1, h9)))) else (some ((0, h))))))
set_option maxRecDepth 20000 in
theorem ezH_hold {d : Nat} (hd : 1 ≤ d) (v1 : Int32) (v2 : Int32) (v3 : Int32) (h : (Nat → Nat → Int32)) (R : Int32 × (Nat → Nat → Int32)) (hp : zH_hold v1 v2 v3 h = some R) : am_Ev 83 Xs am_P d 119 [.ref 0, .int v1, .int v2, .int v3] (am_sh, h, hm, g) (some (.int R.1), (am_sh, R.2, hm, g)) := by
  obtain ⟨d, rfl⟩ : ∃ k, d = k + 1 := ⟨d - 1, by omega⟩
  unfold zH_hold at hp
  show am_Rn 83 Xs am_P _ 119 (0, [(0, .ref 0), (1, .int v1), (2, .int v2), (3, .int v3)], []) _ _
  refine am_Rn.run am_h119 2 (F' := (2, [(0, .ref 0), (1, .int v1), (2, .int v2), (3, .int v3)], [.int v1, .ref 0])) (S' := (am_sh, h, hm, g)) rfl ?_
  obtain ⟨r1, h_r1, hp⟩ := am_b_e hp
  refine am_Rn.call am_h119 (mj := 135) (As := [.ref 0, .int v1]) (F' := (5, [(0, .ref 0), (1, .int v1), (2, .int v2), (3, .int v3)], [])) (M' := am_m135) (r := some (.int r1)) (S1 := (am_sh, h, hm, g)) rfl am_h135 rfl (by subst h_r1; exact (ezH_isBeat (by omega) v1 h)) ?_
  refine am_Rn.ite am_h119 (c := r1 = 0) (t := 33) (f := 8) (lv := [(0, .ref 0), (1, .int v1), (2, .int v2), (3, .int v3)]) (st := []) (S' := (am_sh, h, hm, g)) rfl hp (fun hc2 hp => ?_) (fun hc2 hp => ?_)
  · refine am_Rn.run am_h119 1 (F' := (34, [(0, .ref 0), (1, .int v1), (2, .int v2), (3, .int v3)], [.int 0])) (S' := (am_sh, h, hm, g)) rfl ?_
    cases hp
    exact am_Rn.ret am_h119 rfl
  · refine am_Rn.run am_h119 2 (F' := (10, [(0, .ref 0), (1, .int v1), (2, .int v2), (3, .int v3)], [.int v2, .ref 0])) (S' := (am_sh, h, hm, g)) rfl ?_
    obtain ⟨r3, h_r3, hp⟩ := am_b_e hp
    refine am_Rn.call am_h119 (mj := 136) (As := [.ref 0, .int v2]) (F' := (13, [(0, .ref 0), (1, .int v1), (2, .int v2), (3, .int v3)], [])) (M' := am_m136) (r := some (.int r3)) (S1 := (am_sh, h, hm, g)) rfl am_h136 rfl (by subst h_r3; exact (ezH_isFigure (by omega) v2 h)) ?_
    refine am_Rn.ite am_h119 (c := r3 = 0) (t := 33) (f := 16) (lv := [(0, .ref 0), (1, .int v1), (2, .int v2), (3, .int v3)]) (st := []) (S' := (am_sh, h, hm, g)) rfl hp (fun hc4 hp => ?_) (fun hc4 hp => ?_)
    · refine am_Rn.run am_h119 1 (F' := (34, [(0, .ref 0), (1, .int v1), (2, .int v2), (3, .int v3)], [.int 0])) (S' := (am_sh, h, hm, g)) rfl ?_
      cases hp
      exact am_Rn.ret am_h119 rfl
    · refine am_Rn.run am_h119 1 (F' := (17, [(0, .ref 0), (1, .int v1), (2, .int v2), (3, .int v3)], [.int v3])) (S' := (am_sh, h, hm, g)) rfl ?_
      refine am_Rn.ite am_h119 (c := v3 < 0) (t := 33) (f := 20) (lv := [(0, .ref 0), (1, .int v1), (2, .int v2), (3, .int v3)]) (st := []) (S' := (am_sh, h, hm, g)) rfl hp (fun hc5 hp => ?_) (fun hc5 hp => ?_)
      · refine am_Rn.run am_h119 1 (F' := (34, [(0, .ref 0), (1, .int v1), (2, .int v2), (3, .int v3)], [.int 0])) (S' := (am_sh, h, hm, g)) rfl ?_
        cases hp
        exact am_Rn.ret am_h119 rfl
      · refine am_Rn.run am_h119 4 (F' := (26, [(0, .ref 0), (1, .int v1), (2, .int v2), (3, .int v3)], [.ref 1, .int 1, .int v3])) (S' := (am_sh, h, hm, g)) rfl ?_
        obtain ⟨r6, h_r6, hp⟩ := am_b_e hp
        refine am_Rn.call am_h119 (mj := 82) (As := [.ref 1]) (F' := (29, [(0, .ref 0), (1, .int v1), (2, .int v2), (3, .int v3)], [.int 1, .int v3])) (M' := am_m82) (r := some (.int r6)) (S1 := (am_sh, h, hm, g)) rfl am_h82 rfl (by subst h_r6; exact (ezG_hands (by omega) h)) ?_
        refine am_Rn.run am_h119 1 (F' := (30, [(0, .ref 0), (1, .int v1), (2, .int v2), (3, .int v3)], [.int ((1 : Int32) <<< (r6 &&& 31)), .int v3])) (S' := (am_sh, h, hm, g)) rfl ?_
        refine am_Rn.ite am_h119 (c := v3 < ((1 : Int32) <<< (r6 &&& 31))) (t := 35) (f := 33) (lv := [(0, .ref 0), (1, .int v1), (2, .int v2), (3, .int v3)]) (st := []) (S' := (am_sh, h, hm, g)) rfl hp (fun hc7 hp => ?_) (fun hc7 hp => ?_)
        · refine am_Rn.run am_h119 9 (F' := (49, [(0, .ref 0), (1, .int v1), (2, .int v2), (3, .int v3)], [.int v3, .int ((v1 * 6) + v2), .ref 9])) (S' := (am_sh, h, hm, g)) rfl ?_
          obtain ⟨hn8, hp⟩ := am_ix_e hp
          obtain ⟨h9, h_h9, hp⟩ := am_b_e hp
          refine am_Rn.stepG am_h119 (c := ((v1 * 6) + v2) < 0 ∨ 144 ≤ ((v1 * 6) + v2).toNatClampNeg) (F' := (50, [(0, .ref 0), (1, .int v1), (2, .int v2), (3, .int v3)], [])) (S' := (am_sh, h9, hm, g)) (by subst h_h9; rfl) hn8 ?_
          refine am_Rn.run am_h119 1 (F' := (51, [(0, .ref 0), (1, .int v1), (2, .int v2), (3, .int v3)], [.int 1])) (S' := (am_sh, h9, hm, g)) rfl ?_
          cases hp
          exact am_Rn.ret am_h119 rfl
        · refine am_Rn.run am_h119 1 (F' := (34, [(0, .ref 0), (1, .int v1), (2, .int v2), (3, .int v3)], [.int 0])) (S' := (am_sh, h, hm, g)) rfl ?_
          cases hp
          exact am_Rn.ret am_h119 rfl
/-- SixHands.held(II)I [0] -/
def zH_held (v1 : Int32) (v2 : Int32) (h : (Nat → Nat → Int32)) : Option (Int32) := am_b (zH_isBeat v1 h) fun r1 => if r1 = 0 then (some (-1)) else (am_b (zH_isFigure v2 h) fun r3 => if r3 = 0 then (some (-1)) else (am_ix 144 ((v1 * 6) + v2) (some (h 9 (((v1 * 6) + v2).toNatClampNeg)))))
set_option maxRecDepth 20000 in
theorem ezH_held {d : Nat} (hd : 1 ≤ d) (v1 : Int32) (v2 : Int32) (h : (Nat → Nat → Int32)) (R : Int32) (hp : zH_held v1 v2 h = some R) : am_Ev 83 Xs am_P d 120 [.ref 0, .int v1, .int v2] (am_sh, h, hm, g) (some (.int R), (am_sh, h, hm, g)) := by
  obtain ⟨d, rfl⟩ : ∃ k, d = k + 1 := ⟨d - 1, by omega⟩
  unfold zH_held at hp
  show am_Rn 83 Xs am_P _ 120 (0, [(0, .ref 0), (1, .int v1), (2, .int v2)], []) _ _
  refine am_Rn.run am_h120 2 (F' := (2, [(0, .ref 0), (1, .int v1), (2, .int v2)], [.int v1, .ref 0])) (S' := (am_sh, h, hm, g)) rfl ?_
  obtain ⟨r1, h_r1, hp⟩ := am_b_e hp
  refine am_Rn.call am_h120 (mj := 135) (As := [.ref 0, .int v1]) (F' := (5, [(0, .ref 0), (1, .int v1), (2, .int v2)], [])) (M' := am_m135) (r := some (.int r1)) (S1 := (am_sh, h, hm, g)) rfl am_h135 rfl (by subst h_r1; exact (ezH_isBeat (by omega) v1 h)) ?_
  refine am_Rn.ite am_h120 (c := r1 = 0) (t := 16) (f := 8) (lv := [(0, .ref 0), (1, .int v1), (2, .int v2)]) (st := []) (S' := (am_sh, h, hm, g)) rfl hp (fun hc2 hp => ?_) (fun hc2 hp => ?_)
  · refine am_Rn.run am_h120 1 (F' := (17, [(0, .ref 0), (1, .int v1), (2, .int v2)], [.int (-1)])) (S' := (am_sh, h, hm, g)) rfl ?_
    cases hp
    exact am_Rn.ret am_h120 rfl
  · refine am_Rn.run am_h120 2 (F' := (10, [(0, .ref 0), (1, .int v1), (2, .int v2)], [.int v2, .ref 0])) (S' := (am_sh, h, hm, g)) rfl ?_
    obtain ⟨r3, h_r3, hp⟩ := am_b_e hp
    refine am_Rn.call am_h120 (mj := 136) (As := [.ref 0, .int v2]) (F' := (13, [(0, .ref 0), (1, .int v1), (2, .int v2)], [])) (M' := am_m136) (r := some (.int r3)) (S1 := (am_sh, h, hm, g)) rfl am_h136 rfl (by subst h_r3; exact (ezH_isFigure (by omega) v2 h)) ?_
    refine am_Rn.ite am_h120 (c := r3 = 0) (t := 16) (f := 18) (lv := [(0, .ref 0), (1, .int v1), (2, .int v2)]) (st := []) (S' := (am_sh, h, hm, g)) rfl hp (fun hc4 hp => ?_) (fun hc4 hp => ?_)
    · refine am_Rn.run am_h120 1 (F' := (17, [(0, .ref 0), (1, .int v1), (2, .int v2)], [.int (-1)])) (S' := (am_sh, h, hm, g)) rfl ?_
      cases hp
      exact am_Rn.ret am_h120 rfl
    · refine am_Rn.run am_h120 8 (F' := (31, [(0, .ref 0), (1, .int v1), (2, .int v2)], [.int ((v1 * 6) + v2), .ref 9])) (S' := (am_sh, h, hm, g)) rfl ?_
      obtain ⟨hn5, hp⟩ := am_ix_e hp
      refine am_Rn.stepG am_h120 (c := ((v1 * 6) + v2) < 0 ∨ 144 ≤ ((v1 * 6) + v2).toNatClampNeg) (F' := (32, [(0, .ref 0), (1, .int v1), (2, .int v2)], [.int (h 9 (((v1 * 6) + v2).toNatClampNeg))])) (S' := (am_sh, h, hm, g)) rfl hn5 ?_
      cases hp
      exact am_Rn.ret am_h120 rfl
/-- SixHands.ruling()LSixHands$Text; [0] -/
def zH_ruling (h : (Nat → Nat → Int32)) : Option (Nat) := am_b (zH_isText (h 1 12) h) fun r1 => if r1 = 0 then (some 48) else (am_b (h 1 12) fun x3 => am_ix 5 x3 (am_b (20 + 7 * x3.toNatClampNeg) fun k5 => some k5))
set_option maxRecDepth 20000 in
theorem ezH_ruling {d : Nat} (hd : 1 ≤ d) (h : (Nat → Nat → Int32)) (R : Nat) (hp : zH_ruling h = some R) : am_Ev 83 Xs am_P d 140 [.ref 0] (am_sh, h, hm, g) (some (.ref R), (am_sh, h, hm, g)) := by
  obtain ⟨d, rfl⟩ : ∃ k, d = k + 1 := ⟨d - 1, by omega⟩
  unfold zH_ruling at hp
  show am_Rn 83 Xs am_P _ 140 (0, [(0, .ref 0)], []) _ _
  refine am_Rn.run am_h140 6 (F' := (12, [(0, .ref 0)], [.int (h 1 12), .ref 0, .ref 19])) (S' := (am_sh, h, hm, g)) rfl ?_
  obtain ⟨r1, h_r1, hp⟩ := am_b_e hp
  refine am_Rn.call am_h140 (mj := 137) (As := [.ref 0, .int (h 1 12)]) (F' := (15, [(0, .ref 0)], [.ref 19])) (M' := am_m137) (r := some (.int r1)) (S1 := (am_sh, h, hm, g)) rfl am_h137 rfl (by subst h_r1; exact (ezH_isText (by omega) (h 1 12) h)) ?_
  refine am_Rn.ite am_h140 (c := r1 = 0) (t := 28) (f := 18) (lv := [(0, .ref 0)]) (st := [.ref 19]) (S' := (am_sh, h, hm, g)) rfl hp (fun hc2 hp => ?_) (fun hc2 hp => ?_)
  · refine am_Rn.run am_h140 2 (F' := (30, [(0, .ref 0)], [.ref 48])) (S' := (am_sh, h, hm, g)) rfl ?_
    cases hp
    exact am_Rn.ret am_h140 rfl
  · obtain ⟨x3, h_x3, hp⟩ := am_b_e hp
    refine am_Rn.run am_h140 4 (F' := (29, [(0, .ref 0)], [.int x3, .ref 19])) (S' := (am_sh, h, hm, g)) (by subst h_x3; rfl) ?_
    obtain ⟨hn4, hp⟩ := am_ix_e hp
    obtain ⟨k5, h_k5, hp⟩ := am_b_e hp
    have hk_k5 := zK_of hn4 h_k5
    refine am_Rn.step am_h140 (F' := (30, [(0, .ref 0)], [.ref k5])) (S' := (am_sh, h, hm, g)) (by subst h_k5; rcases am_five hn4 with rfl | rfl | rfl | rfl | rfl <;> rfl) ?_
    cases hp
    exact am_Rn.ret am_h140 (by rcases hk_k5 with rfl | rfl | rfl | rfl | rfl <;> rfl)
set_option maxRecDepth 20000 in
theorem zH_ruling_k {h : Nat → Nat → Int32} {k : Nat} (hp : zH_ruling h = some k) : zK k := by
  unfold zH_ruling at hp
  obtain ⟨r1, -, hp⟩ := am_b_e hp
  refine am_ite hp (fun _ hp => ?_) (fun _ hp => ?_)
  · cases hp
    exact Or.inr (Or.inr (Or.inr (Or.inr rfl)))
  · obtain ⟨x3, -, hp⟩ := am_b_e hp
    obtain ⟨hn, hp⟩ := am_ix_e hp
    obtain ⟨k5, hk, hp⟩ := am_b_e hp
    cases hp
    exact zK_of hn hk
/-- SixHands$Stage.isOn(II)Z [1] -/
def zG_isOn (v1 : Int32) (v2 : Int32) (h : (Nat → Nat → Int32)) : Option (Int32) := am_ix 144 ((v1 * 6) + v2) (if (h 8 (((v1 * 6) + v2).toNatClampNeg)) = (-1) then (some 0) else (some 1))
set_option maxRecDepth 20000 in
theorem ezG_isOn {d : Nat} (hd : 0 ≤ d) (v1 : Int32) (v2 : Int32) (h : (Nat → Nat → Int32)) (R : Int32) (hp : zG_isOn v1 v2 h = some R) : am_Ev 83 Xs am_P d 85 [.ref 1, .int v1, .int v2] (am_sh, h, hm, g) (some (.int R), (am_sh, h, hm, g)) := by
  unfold zG_isOn at hp
  show am_Rn 83 Xs am_P _ 85 (0, [(0, .ref 1), (1, .int v1), (2, .int v2)], []) _ _
  refine am_Rn.run am_h85 7 (F' := (10, [(0, .ref 1), (1, .int v1), (2, .int v2)], [.int ((v1 * 6) + v2), .ref 8])) (S' := (am_sh, h, hm, g)) rfl ?_
  obtain ⟨hn1, hp⟩ := am_ix_e hp
  refine am_Rn.stepG am_h85 (c := ((v1 * 6) + v2) < 0 ∨ 144 ≤ ((v1 * 6) + v2).toNatClampNeg) (F' := (11, [(0, .ref 1), (1, .int v1), (2, .int v2)], [.int (h 8 (((v1 * 6) + v2).toNatClampNeg))])) (S' := (am_sh, h, hm, g)) rfl hn1 ?_
  refine am_Rn.run am_h85 1 (F' := (12, [(0, .ref 1), (1, .int v1), (2, .int v2)], [.int (-1), .int (h 8 (((v1 * 6) + v2).toNatClampNeg))])) (S' := (am_sh, h, hm, g)) rfl ?_
  refine am_Rn.ite am_h85 (c := (h 8 (((v1 * 6) + v2).toNatClampNeg)) = (-1)) (t := 19) (f := 15) (lv := [(0, .ref 1), (1, .int v1), (2, .int v2)]) (st := []) (S' := (am_sh, h, hm, g)) rfl hp (fun hc2 hp => ?_) (fun hc2 hp => ?_)
  · refine am_Rn.run am_h85 1 (F' := (20, [(0, .ref 1), (1, .int v1), (2, .int v2)], [.int 0])) (S' := (am_sh, h, hm, g)) rfl ?_
    cases hp
    exact am_Rn.ret am_h85 rfl
  · refine am_Rn.run am_h85 2 (F' := (20, [(0, .ref 1), (1, .int v1), (2, .int v2)], [.int 1])) (S' := (am_sh, h, hm, g)) rfl ?_
    cases hp
    exact am_Rn.ret am_h85 rfl
/-- SixHands$Stage.staysOn(II)Z [1] -/
def zG_staysOn (v1 : Int32) (v2 : Int32) (h : (Nat → Nat → Int32)) : Option (Int32) := if 0 < v1 then ((zG_isOn v1 v2 h).bind fun r2 => if r2 = 0 then (some 0) else ((zG_isOn (v1 - 1) v2 h).bind fun r4 => if r4 = 0 then (some 0) else (some 1))) else (some 0)
set_option maxRecDepth 20000 in
theorem ezG_staysOn {d : Nat} (hd : 1 ≤ d) (v1 : Int32) (v2 : Int32) (h : (Nat → Nat → Int32)) (R : Int32) (hp : zG_staysOn v1 v2 h = some R) : am_Ev 83 Xs am_P d 86 [.ref 1, .int v1, .int v2] (am_sh, h, hm, g) (some (.int R), (am_sh, h, hm, g)) := by
  obtain ⟨d, rfl⟩ : ∃ k, d = k + 1 := ⟨d - 1, by omega⟩
  unfold zG_staysOn at hp
  show am_Rn 83 Xs am_P _ 86 (0, [(0, .ref 1), (1, .int v1), (2, .int v2)], []) _ _
  refine am_Rn.run am_h86 1 (F' := (1, [(0, .ref 1), (1, .int v1), (2, .int v2)], [.int v1])) (S' := (am_sh, h, hm, g)) rfl ?_
  refine am_Rn.ite am_h86 (c := 0 < v1) (t := 4) (f := 28) (lv := [(0, .ref 1), (1, .int v1), (2, .int v2)]) (st := []) (S' := (am_sh, h, hm, g)) rfl hp (fun hc1 hp => ?_) (fun hc1 hp => ?_)
  · refine am_Rn.run am_h86 3 (F' := (7, [(0, .ref 1), (1, .int v1), (2, .int v2)], [.int v2, .int v1, .ref 1])) (S' := (am_sh, h, hm, g)) rfl ?_
    obtain ⟨r2, h_r2, hp⟩ := am_bind hp
    refine am_Rn.call am_h86 (mj := 85) (As := [.ref 1, .int v1, .int v2]) (F' := (10, [(0, .ref 1), (1, .int v1), (2, .int v2)], [])) (M' := am_m85) (r := some (.int r2)) (S1 := (am_sh, h, hm, g)) rfl am_h85 rfl (ezG_isOn (by omega) v1 v2 h _ h_r2) ?_
    refine am_Rn.ite am_h86 (c := r2 = 0) (t := 28) (f := 13) (lv := [(0, .ref 1), (1, .int v1), (2, .int v2)]) (st := []) (S' := (am_sh, h, hm, g)) rfl hp (fun hc3 hp => ?_) (fun hc3 hp => ?_)
    · refine am_Rn.run am_h86 1 (F' := (29, [(0, .ref 1), (1, .int v1), (2, .int v2)], [.int 0])) (S' := (am_sh, h, hm, g)) rfl ?_
      cases hp
      exact am_Rn.ret am_h86 rfl
    · refine am_Rn.run am_h86 5 (F' := (18, [(0, .ref 1), (1, .int v1), (2, .int v2)], [.int v2, .int (v1 - 1), .ref 1])) (S' := (am_sh, h, hm, g)) rfl ?_
      obtain ⟨r4, h_r4, hp⟩ := am_bind hp
      refine am_Rn.call am_h86 (mj := 85) (As := [.ref 1, .int (v1 - 1), .int v2]) (F' := (21, [(0, .ref 1), (1, .int v1), (2, .int v2)], [])) (M' := am_m85) (r := some (.int r4)) (S1 := (am_sh, h, hm, g)) rfl am_h85 rfl (ezG_isOn (by omega) (v1 - 1) v2 h _ h_r4) ?_
      refine am_Rn.ite am_h86 (c := r4 = 0) (t := 28) (f := 24) (lv := [(0, .ref 1), (1, .int v1), (2, .int v2)]) (st := []) (S' := (am_sh, h, hm, g)) rfl hp (fun hc5 hp => ?_) (fun hc5 hp => ?_)
      · refine am_Rn.run am_h86 1 (F' := (29, [(0, .ref 1), (1, .int v1), (2, .int v2)], [.int 0])) (S' := (am_sh, h, hm, g)) rfl ?_
        cases hp
        exact am_Rn.ret am_h86 rfl
      · refine am_Rn.run am_h86 2 (F' := (29, [(0, .ref 1), (1, .int v1), (2, .int v2)], [.int 1])) (S' := (am_sh, h, hm, g)) rfl ?_
        cases hp
        exact am_Rn.ret am_h86 rfl
  · refine am_Rn.run am_h86 1 (F' := (29, [(0, .ref 1), (1, .int v1), (2, .int v2)], [.int 0])) (S' := (am_sh, h, hm, g)) rfl ?_
    cases hp
    exact am_Rn.ret am_h86 rfl
/-- java/lang/Math.min(JJ)J [] -/
def zD_minL (v0 : Int64) (v2 : Int64) : Int64 := if 0 < (lg_cmp v0 v2) then (v2) else (v0)
set_option maxRecDepth 20000 in
theorem ezD_minL {d : Nat} (hd : 0 ≤ d) (v0 : Int64) (v2 : Int64) : am_Ev 83 Xs am_P d 5 [.long v0, .long v2] S (some (.long ((zD_minL v0 v2))), S) := by
  obtain ⟨R, hp⟩ : ∃ R, zD_minL v0 v2 = R := ⟨_, rfl⟩
  rw [hp]
  unfold zD_minL at hp
  show am_Rn 83 Xs am_P _ 5 (0, [(0, .long v0), (2, .long v2)], []) _ _
  refine am_Rn.run am_h5 3 (F' := (3, [(0, .long v0), (2, .long v2)], [.int (lg_cmp v0 v2)])) (S' := S) rfl ?_
  refine am_Rn.ite am_h5 (c := 0 < (lg_cmp v0 v2)) (t := 10) (f := 6) (lv := [(0, .long v0), (2, .long v2)]) (st := []) (S' := S) rfl hp (fun hc1 hp => ?_) (fun hc1 hp => ?_)
  · refine am_Rn.run am_h5 1 (F' := (11, [(0, .long v0), (2, .long v2)], [.long v2])) (S' := S) rfl ?_
    subst hp
    exact am_Rn.ret am_h5 rfl
  · refine am_Rn.run am_h5 2 (F' := (11, [(0, .long v0), (2, .long v2)], [.long v0])) (S' := S) rfl ?_
    subst hp
    exact am_Rn.ret am_h5 rfl
/-- java/lang/Math.max(JJ)J [] -/
def zD_maxL (v0 : Int64) (v2 : Int64) : Int64 := if (lg_cmp v0 v2) < 0 then (v2) else (v0)
set_option maxRecDepth 20000 in
theorem ezD_maxL {d : Nat} (hd : 0 ≤ d) (v0 : Int64) (v2 : Int64) : am_Ev 83 Xs am_P d 3 [.long v0, .long v2] S (some (.long ((zD_maxL v0 v2))), S) := by
  obtain ⟨R, hp⟩ : ∃ R, zD_maxL v0 v2 = R := ⟨_, rfl⟩
  rw [hp]
  unfold zD_maxL at hp
  show am_Rn 83 Xs am_P _ 3 (0, [(0, .long v0), (2, .long v2)], []) _ _
  refine am_Rn.run am_h3 3 (F' := (3, [(0, .long v0), (2, .long v2)], [.int (lg_cmp v0 v2)])) (S' := S) rfl ?_
  refine am_Rn.ite am_h3 (c := (lg_cmp v0 v2) < 0) (t := 10) (f := 6) (lv := [(0, .long v0), (2, .long v2)]) (st := []) (S' := S) rfl hp (fun hc1 hp => ?_) (fun hc1 hp => ?_)
  · refine am_Rn.run am_h3 1 (F' := (11, [(0, .long v0), (2, .long v2)], [.long v2])) (S' := S) rfl ?_
    subst hp
    exact am_Rn.ret am_h3 rfl
  · refine am_Rn.run am_h3 2 (F' := (11, [(0, .long v0), (2, .long v2)], [.long v0])) (S' := S) rfl ?_
    subst hp
    exact am_Rn.ret am_h3 rfl
/-- SixHands$Laws.cut(J)I [] -/
def zL_cut (v0 : Int64) : Int32 := am_b (zD_minL 1000000 v0) fun r1 => am_b (zD_maxL (-1000000) r1) fun r2 => r2.toInt32
set_option maxRecDepth 20000 in
theorem ezL_cut {d : Nat} (hd : 1 ≤ d) (v0 : Int64) : am_Ev 83 Xs am_P d 30 [.long v0] S (some (.int ((zL_cut v0))), S) := by
  obtain ⟨R, hp⟩ : ∃ R, zL_cut v0 = R := ⟨_, rfl⟩
  rw [hp]
  obtain ⟨d, rfl⟩ : ∃ k, d = k + 1 := ⟨d - 1, by omega⟩
  unfold zL_cut at hp
  show am_Rn 83 Xs am_P _ 30 (0, [(0, .long v0)], []) _ _
  refine am_Rn.run am_h30 3 (F' := (7, [(0, .long v0)], [.long v0, .long 1000000, .long (-1000000)])) (S' := S) rfl ?_
  obtain ⟨r1, h_r1, hp⟩ := am_b_e hp
  refine am_Rn.call am_h30 (mj := 5) (As := [.long 1000000, .long v0]) (F' := (10, [(0, .long v0)], [.long (-1000000)])) (M' := am_m5) (r := some (.long r1)) (S1 := S) rfl am_h5 rfl (by subst h_r1; exact (ezD_minL (by omega) 1000000 v0)) ?_
  obtain ⟨r2, h_r2, hp⟩ := am_b_e hp
  refine am_Rn.call am_h30 (mj := 3) (As := [.long (-1000000), .long r1]) (F' := (13, [(0, .long v0)], [])) (M' := am_m3) (r := some (.long r2)) (S1 := S) rfl am_h3 rfl (by subst h_r2; exact (ezD_maxL (by omega) (-1000000) r1)) ?_
  refine am_Rn.run am_h30 1 (F' := (14, [(0, .long v0)], [.int (r2.toInt32)])) (S' := S) rfl ?_
  subst hp
  exact am_Rn.ret am_h30 rfl
/-- SixHands$Laws.reckon(III)I [] -/
def zL_reckon (v0 : Int32) (v1 : Int32) (v2 : Int32) : Option (Int32) := if v0 = 0 then (some (v1 ||| v2)) else if v0 = 1 then (some (v1 &&& v2)) else if v0 = 2 then (some 0) else if v0 = 3 then (some 0) else if v0 = 4 then (some 0) else if v0 = 5 then (some 0) else if v0 = 6 then (some 0) else if v0 = 7 then (some 0) else if v0 = 8 then (some 0) else if v0 = 9 then (some 0) else if v0 = 10 then (some 0) else if v0 = 11 then (some 0) else if v0 = 12 then (some 0) else if v0 = 13 then (some 0) else if v0 = 14 then (some 0) else if v0 = 15 then (some 0) else if v0 = 16 then (some 0) else if v0 = 17 then (some 0) else if v0 = 18 then (some 0) else if v0 = 19 then (some 0) else if v0 = 20 then (some 0) else if v0 = 21 then (if v1 < v2 then (some 1) else (some 0)) else if v0 = 22 then (if v2 < v1 then (some 0) else (some 1)) else if v0 = 23 then (if v2 < v1 then (some 1) else (some 0)) else if v0 = 24 then (if v1 < v2 then (some 0) else (some 1)) else if v0 = 25 then (if v1 = v2 then (some 1) else (some 0)) else if v0 = 26 then (if v1 = v2 then (some 0) else (some 1)) else if v0 = 27 then (am_b (zL_cut ((v1 + v2).toInt64)) fun r35 => some r35) else if v0 = 28 then (am_b (zL_cut ((v1 - v2).toInt64)) fun r37 => some r37) else if v0 = 29 then (am_b (zL_cut ((v1.toInt64) * (v2.toInt64))) fun r39 => some r39) else if v0 = 30 then (if v2 = 0 then (some 0) else (am_no (v2 = 0) (some (v1 / v2)))) else (some 0)
set_option maxRecDepth 20000 in
theorem ezL_reckon {d : Nat} (hd : 2 ≤ d) (v0 : Int32) (v1 : Int32) (v2 : Int32) (R : Int32) (hp : zL_reckon v0 v1 v2 = some R) : am_Ev 83 Xs am_P d 29 [.int v0, .int v1, .int v2] S (some (.int R), S) := by
  obtain ⟨d, rfl⟩ : ∃ k, d = k + 1 := ⟨d - 1, by omega⟩
  unfold zL_reckon at hp
  show am_Rn 83 Xs am_P _ 29 (0, [(0, .int v0), (1, .int v1), (2, .int v2)], []) _ _
  refine am_Rn.run am_h29 1 (F' := (1, [(0, .int v0), (1, .int v1), (2, .int v2)], [.int v0])) (S' := S) rfl ?_
  refine am_Rn.step am_h29 (F' := (am_sw v0 0 251 [140, 144, 251, 251, 251, 251, 251, 251, 251, 251, 251, 251, 251, 251, 251, 251, 251, 251, 251, 251, 251, 148, 159, 170, 181, 192, 203, 214, 222, 230, 239], [(0, .int v0), (1, .int v1), (2, .int v2)], [])) (S' := S) rfl ?_
  refine am_ite hp (fun hc1 hp => ?_) (fun hc1 hp => ?_)
  · rw [show am_sw v0 0 251 [140, 144, 251, 251, 251, 251, 251, 251, 251, 251, 251, 251, 251, 251, 251, 251, 251, 251, 251, 251, 251, 148, 159, 170, 181, 192, 203, 214, 222, 230, 239] = 140 from by subst hc1; rfl]
    refine am_Rn.run am_h29 3 (F' := (143, [(0, .int v0), (1, .int v1), (2, .int v2)], [.int (v1 ||| v2)])) (S' := S) rfl ?_
    cases hp
    exact am_Rn.ret am_h29 rfl
  refine am_ite hp (fun hc2 hp => ?_) (fun hc2 hp => ?_)
  · rw [show am_sw v0 0 251 [140, 144, 251, 251, 251, 251, 251, 251, 251, 251, 251, 251, 251, 251, 251, 251, 251, 251, 251, 251, 251, 148, 159, 170, 181, 192, 203, 214, 222, 230, 239] = 144 from by subst hc2; rfl]
    refine am_Rn.run am_h29 3 (F' := (147, [(0, .int v0), (1, .int v1), (2, .int v2)], [.int (v1 &&& v2)])) (S' := S) rfl ?_
    cases hp
    exact am_Rn.ret am_h29 rfl
  refine am_ite hp (fun hc3 hp => ?_) (fun hc3 hp => ?_)
  · rw [show am_sw v0 0 251 [140, 144, 251, 251, 251, 251, 251, 251, 251, 251, 251, 251, 251, 251, 251, 251, 251, 251, 251, 251, 251, 148, 159, 170, 181, 192, 203, 214, 222, 230, 239] = 251 from by subst hc3; rfl]
    refine am_Rn.run am_h29 1 (F' := (252, [(0, .int v0), (1, .int v1), (2, .int v2)], [.int 0])) (S' := S) rfl ?_
    cases hp
    exact am_Rn.ret am_h29 rfl
  refine am_ite hp (fun hc4 hp => ?_) (fun hc4 hp => ?_)
  · rw [show am_sw v0 0 251 [140, 144, 251, 251, 251, 251, 251, 251, 251, 251, 251, 251, 251, 251, 251, 251, 251, 251, 251, 251, 251, 148, 159, 170, 181, 192, 203, 214, 222, 230, 239] = 251 from by subst hc4; rfl]
    refine am_Rn.run am_h29 1 (F' := (252, [(0, .int v0), (1, .int v1), (2, .int v2)], [.int 0])) (S' := S) rfl ?_
    cases hp
    exact am_Rn.ret am_h29 rfl
  refine am_ite hp (fun hc5 hp => ?_) (fun hc5 hp => ?_)
  · rw [show am_sw v0 0 251 [140, 144, 251, 251, 251, 251, 251, 251, 251, 251, 251, 251, 251, 251, 251, 251, 251, 251, 251, 251, 251, 148, 159, 170, 181, 192, 203, 214, 222, 230, 239] = 251 from by subst hc5; rfl]
    refine am_Rn.run am_h29 1 (F' := (252, [(0, .int v0), (1, .int v1), (2, .int v2)], [.int 0])) (S' := S) rfl ?_
    cases hp
    exact am_Rn.ret am_h29 rfl
  refine am_ite hp (fun hc6 hp => ?_) (fun hc6 hp => ?_)
  · rw [show am_sw v0 0 251 [140, 144, 251, 251, 251, 251, 251, 251, 251, 251, 251, 251, 251, 251, 251, 251, 251, 251, 251, 251, 251, 148, 159, 170, 181, 192, 203, 214, 222, 230, 239] = 251 from by subst hc6; rfl]
    refine am_Rn.run am_h29 1 (F' := (252, [(0, .int v0), (1, .int v1), (2, .int v2)], [.int 0])) (S' := S) rfl ?_
    cases hp
    exact am_Rn.ret am_h29 rfl
  refine am_ite hp (fun hc7 hp => ?_) (fun hc7 hp => ?_)
  · rw [show am_sw v0 0 251 [140, 144, 251, 251, 251, 251, 251, 251, 251, 251, 251, 251, 251, 251, 251, 251, 251, 251, 251, 251, 251, 148, 159, 170, 181, 192, 203, 214, 222, 230, 239] = 251 from by subst hc7; rfl]
    refine am_Rn.run am_h29 1 (F' := (252, [(0, .int v0), (1, .int v1), (2, .int v2)], [.int 0])) (S' := S) rfl ?_
    cases hp
    exact am_Rn.ret am_h29 rfl
  refine am_ite hp (fun hc8 hp => ?_) (fun hc8 hp => ?_)
  · rw [show am_sw v0 0 251 [140, 144, 251, 251, 251, 251, 251, 251, 251, 251, 251, 251, 251, 251, 251, 251, 251, 251, 251, 251, 251, 148, 159, 170, 181, 192, 203, 214, 222, 230, 239] = 251 from by subst hc8; rfl]
    refine am_Rn.run am_h29 1 (F' := (252, [(0, .int v0), (1, .int v1), (2, .int v2)], [.int 0])) (S' := S) rfl ?_
    cases hp
    exact am_Rn.ret am_h29 rfl
  refine am_ite hp (fun hc9 hp => ?_) (fun hc9 hp => ?_)
  · rw [show am_sw v0 0 251 [140, 144, 251, 251, 251, 251, 251, 251, 251, 251, 251, 251, 251, 251, 251, 251, 251, 251, 251, 251, 251, 148, 159, 170, 181, 192, 203, 214, 222, 230, 239] = 251 from by subst hc9; rfl]
    refine am_Rn.run am_h29 1 (F' := (252, [(0, .int v0), (1, .int v1), (2, .int v2)], [.int 0])) (S' := S) rfl ?_
    cases hp
    exact am_Rn.ret am_h29 rfl
  refine am_ite hp (fun hc10 hp => ?_) (fun hc10 hp => ?_)
  · rw [show am_sw v0 0 251 [140, 144, 251, 251, 251, 251, 251, 251, 251, 251, 251, 251, 251, 251, 251, 251, 251, 251, 251, 251, 251, 148, 159, 170, 181, 192, 203, 214, 222, 230, 239] = 251 from by subst hc10; rfl]
    refine am_Rn.run am_h29 1 (F' := (252, [(0, .int v0), (1, .int v1), (2, .int v2)], [.int 0])) (S' := S) rfl ?_
    cases hp
    exact am_Rn.ret am_h29 rfl
  refine am_ite hp (fun hc11 hp => ?_) (fun hc11 hp => ?_)
  · rw [show am_sw v0 0 251 [140, 144, 251, 251, 251, 251, 251, 251, 251, 251, 251, 251, 251, 251, 251, 251, 251, 251, 251, 251, 251, 148, 159, 170, 181, 192, 203, 214, 222, 230, 239] = 251 from by subst hc11; rfl]
    refine am_Rn.run am_h29 1 (F' := (252, [(0, .int v0), (1, .int v1), (2, .int v2)], [.int 0])) (S' := S) rfl ?_
    cases hp
    exact am_Rn.ret am_h29 rfl
  refine am_ite hp (fun hc12 hp => ?_) (fun hc12 hp => ?_)
  · rw [show am_sw v0 0 251 [140, 144, 251, 251, 251, 251, 251, 251, 251, 251, 251, 251, 251, 251, 251, 251, 251, 251, 251, 251, 251, 148, 159, 170, 181, 192, 203, 214, 222, 230, 239] = 251 from by subst hc12; rfl]
    refine am_Rn.run am_h29 1 (F' := (252, [(0, .int v0), (1, .int v1), (2, .int v2)], [.int 0])) (S' := S) rfl ?_
    cases hp
    exact am_Rn.ret am_h29 rfl
  refine am_ite hp (fun hc13 hp => ?_) (fun hc13 hp => ?_)
  · rw [show am_sw v0 0 251 [140, 144, 251, 251, 251, 251, 251, 251, 251, 251, 251, 251, 251, 251, 251, 251, 251, 251, 251, 251, 251, 148, 159, 170, 181, 192, 203, 214, 222, 230, 239] = 251 from by subst hc13; rfl]
    refine am_Rn.run am_h29 1 (F' := (252, [(0, .int v0), (1, .int v1), (2, .int v2)], [.int 0])) (S' := S) rfl ?_
    cases hp
    exact am_Rn.ret am_h29 rfl
  refine am_ite hp (fun hc14 hp => ?_) (fun hc14 hp => ?_)
  · rw [show am_sw v0 0 251 [140, 144, 251, 251, 251, 251, 251, 251, 251, 251, 251, 251, 251, 251, 251, 251, 251, 251, 251, 251, 251, 148, 159, 170, 181, 192, 203, 214, 222, 230, 239] = 251 from by subst hc14; rfl]
    refine am_Rn.run am_h29 1 (F' := (252, [(0, .int v0), (1, .int v1), (2, .int v2)], [.int 0])) (S' := S) rfl ?_
    cases hp
    exact am_Rn.ret am_h29 rfl
  refine am_ite hp (fun hc15 hp => ?_) (fun hc15 hp => ?_)
  · rw [show am_sw v0 0 251 [140, 144, 251, 251, 251, 251, 251, 251, 251, 251, 251, 251, 251, 251, 251, 251, 251, 251, 251, 251, 251, 148, 159, 170, 181, 192, 203, 214, 222, 230, 239] = 251 from by subst hc15; rfl]
    refine am_Rn.run am_h29 1 (F' := (252, [(0, .int v0), (1, .int v1), (2, .int v2)], [.int 0])) (S' := S) rfl ?_
    cases hp
    exact am_Rn.ret am_h29 rfl
  refine am_ite hp (fun hc16 hp => ?_) (fun hc16 hp => ?_)
  · rw [show am_sw v0 0 251 [140, 144, 251, 251, 251, 251, 251, 251, 251, 251, 251, 251, 251, 251, 251, 251, 251, 251, 251, 251, 251, 148, 159, 170, 181, 192, 203, 214, 222, 230, 239] = 251 from by subst hc16; rfl]
    refine am_Rn.run am_h29 1 (F' := (252, [(0, .int v0), (1, .int v1), (2, .int v2)], [.int 0])) (S' := S) rfl ?_
    cases hp
    exact am_Rn.ret am_h29 rfl
  refine am_ite hp (fun hc17 hp => ?_) (fun hc17 hp => ?_)
  · rw [show am_sw v0 0 251 [140, 144, 251, 251, 251, 251, 251, 251, 251, 251, 251, 251, 251, 251, 251, 251, 251, 251, 251, 251, 251, 148, 159, 170, 181, 192, 203, 214, 222, 230, 239] = 251 from by subst hc17; rfl]
    refine am_Rn.run am_h29 1 (F' := (252, [(0, .int v0), (1, .int v1), (2, .int v2)], [.int 0])) (S' := S) rfl ?_
    cases hp
    exact am_Rn.ret am_h29 rfl
  refine am_ite hp (fun hc18 hp => ?_) (fun hc18 hp => ?_)
  · rw [show am_sw v0 0 251 [140, 144, 251, 251, 251, 251, 251, 251, 251, 251, 251, 251, 251, 251, 251, 251, 251, 251, 251, 251, 251, 148, 159, 170, 181, 192, 203, 214, 222, 230, 239] = 251 from by subst hc18; rfl]
    refine am_Rn.run am_h29 1 (F' := (252, [(0, .int v0), (1, .int v1), (2, .int v2)], [.int 0])) (S' := S) rfl ?_
    cases hp
    exact am_Rn.ret am_h29 rfl
  refine am_ite hp (fun hc19 hp => ?_) (fun hc19 hp => ?_)
  · rw [show am_sw v0 0 251 [140, 144, 251, 251, 251, 251, 251, 251, 251, 251, 251, 251, 251, 251, 251, 251, 251, 251, 251, 251, 251, 148, 159, 170, 181, 192, 203, 214, 222, 230, 239] = 251 from by subst hc19; rfl]
    refine am_Rn.run am_h29 1 (F' := (252, [(0, .int v0), (1, .int v1), (2, .int v2)], [.int 0])) (S' := S) rfl ?_
    cases hp
    exact am_Rn.ret am_h29 rfl
  refine am_ite hp (fun hc20 hp => ?_) (fun hc20 hp => ?_)
  · rw [show am_sw v0 0 251 [140, 144, 251, 251, 251, 251, 251, 251, 251, 251, 251, 251, 251, 251, 251, 251, 251, 251, 251, 251, 251, 148, 159, 170, 181, 192, 203, 214, 222, 230, 239] = 251 from by subst hc20; rfl]
    refine am_Rn.run am_h29 1 (F' := (252, [(0, .int v0), (1, .int v1), (2, .int v2)], [.int 0])) (S' := S) rfl ?_
    cases hp
    exact am_Rn.ret am_h29 rfl
  refine am_ite hp (fun hc21 hp => ?_) (fun hc21 hp => ?_)
  · rw [show am_sw v0 0 251 [140, 144, 251, 251, 251, 251, 251, 251, 251, 251, 251, 251, 251, 251, 251, 251, 251, 251, 251, 251, 251, 148, 159, 170, 181, 192, 203, 214, 222, 230, 239] = 251 from by subst hc21; rfl]
    refine am_Rn.run am_h29 1 (F' := (252, [(0, .int v0), (1, .int v1), (2, .int v2)], [.int 0])) (S' := S) rfl ?_
    cases hp
    exact am_Rn.ret am_h29 rfl
  refine am_ite hp (fun hc22 hp => ?_) (fun hc22 hp => ?_)
  · rw [show am_sw v0 0 251 [140, 144, 251, 251, 251, 251, 251, 251, 251, 251, 251, 251, 251, 251, 251, 251, 251, 251, 251, 251, 251, 148, 159, 170, 181, 192, 203, 214, 222, 230, 239] = 148 from by subst hc22; rfl]
    refine am_Rn.run am_h29 2 (F' := (150, [(0, .int v0), (1, .int v1), (2, .int v2)], [.int v2, .int v1])) (S' := S) rfl ?_
    refine am_Rn.ite am_h29 (c := v1 < v2) (t := 153) (f := 157) (lv := [(0, .int v0), (1, .int v1), (2, .int v2)]) (st := []) (S' := S) rfl hp (fun hc23 hp => ?_) (fun hc23 hp => ?_)
    · refine am_Rn.run am_h29 2 (F' := (158, [(0, .int v0), (1, .int v1), (2, .int v2)], [.int 1])) (S' := S) rfl ?_
      cases hp
      exact am_Rn.ret am_h29 rfl
    · refine am_Rn.run am_h29 1 (F' := (158, [(0, .int v0), (1, .int v1), (2, .int v2)], [.int 0])) (S' := S) rfl ?_
      cases hp
      exact am_Rn.ret am_h29 rfl
  refine am_ite hp (fun hc24 hp => ?_) (fun hc24 hp => ?_)
  · rw [show am_sw v0 0 251 [140, 144, 251, 251, 251, 251, 251, 251, 251, 251, 251, 251, 251, 251, 251, 251, 251, 251, 251, 251, 251, 148, 159, 170, 181, 192, 203, 214, 222, 230, 239] = 159 from by subst hc24; rfl]
    refine am_Rn.run am_h29 2 (F' := (161, [(0, .int v0), (1, .int v1), (2, .int v2)], [.int v2, .int v1])) (S' := S) rfl ?_
    refine am_Rn.ite am_h29 (c := v2 < v1) (t := 168) (f := 164) (lv := [(0, .int v0), (1, .int v1), (2, .int v2)]) (st := []) (S' := S) rfl hp (fun hc25 hp => ?_) (fun hc25 hp => ?_)
    · refine am_Rn.run am_h29 1 (F' := (169, [(0, .int v0), (1, .int v1), (2, .int v2)], [.int 0])) (S' := S) rfl ?_
      cases hp
      exact am_Rn.ret am_h29 rfl
    · refine am_Rn.run am_h29 2 (F' := (169, [(0, .int v0), (1, .int v1), (2, .int v2)], [.int 1])) (S' := S) rfl ?_
      cases hp
      exact am_Rn.ret am_h29 rfl
  refine am_ite hp (fun hc26 hp => ?_) (fun hc26 hp => ?_)
  · rw [show am_sw v0 0 251 [140, 144, 251, 251, 251, 251, 251, 251, 251, 251, 251, 251, 251, 251, 251, 251, 251, 251, 251, 251, 251, 148, 159, 170, 181, 192, 203, 214, 222, 230, 239] = 170 from by subst hc26; rfl]
    refine am_Rn.run am_h29 2 (F' := (172, [(0, .int v0), (1, .int v1), (2, .int v2)], [.int v2, .int v1])) (S' := S) rfl ?_
    refine am_Rn.ite am_h29 (c := v2 < v1) (t := 175) (f := 179) (lv := [(0, .int v0), (1, .int v1), (2, .int v2)]) (st := []) (S' := S) rfl hp (fun hc27 hp => ?_) (fun hc27 hp => ?_)
    · refine am_Rn.run am_h29 2 (F' := (180, [(0, .int v0), (1, .int v1), (2, .int v2)], [.int 1])) (S' := S) rfl ?_
      cases hp
      exact am_Rn.ret am_h29 rfl
    · refine am_Rn.run am_h29 1 (F' := (180, [(0, .int v0), (1, .int v1), (2, .int v2)], [.int 0])) (S' := S) rfl ?_
      cases hp
      exact am_Rn.ret am_h29 rfl
  refine am_ite hp (fun hc28 hp => ?_) (fun hc28 hp => ?_)
  · rw [show am_sw v0 0 251 [140, 144, 251, 251, 251, 251, 251, 251, 251, 251, 251, 251, 251, 251, 251, 251, 251, 251, 251, 251, 251, 148, 159, 170, 181, 192, 203, 214, 222, 230, 239] = 181 from by subst hc28; rfl]
    refine am_Rn.run am_h29 2 (F' := (183, [(0, .int v0), (1, .int v1), (2, .int v2)], [.int v2, .int v1])) (S' := S) rfl ?_
    refine am_Rn.ite am_h29 (c := v1 < v2) (t := 190) (f := 186) (lv := [(0, .int v0), (1, .int v1), (2, .int v2)]) (st := []) (S' := S) rfl hp (fun hc29 hp => ?_) (fun hc29 hp => ?_)
    · refine am_Rn.run am_h29 1 (F' := (191, [(0, .int v0), (1, .int v1), (2, .int v2)], [.int 0])) (S' := S) rfl ?_
      cases hp
      exact am_Rn.ret am_h29 rfl
    · refine am_Rn.run am_h29 2 (F' := (191, [(0, .int v0), (1, .int v1), (2, .int v2)], [.int 1])) (S' := S) rfl ?_
      cases hp
      exact am_Rn.ret am_h29 rfl
  refine am_ite hp (fun hc30 hp => ?_) (fun hc30 hp => ?_)
  · rw [show am_sw v0 0 251 [140, 144, 251, 251, 251, 251, 251, 251, 251, 251, 251, 251, 251, 251, 251, 251, 251, 251, 251, 251, 251, 148, 159, 170, 181, 192, 203, 214, 222, 230, 239] = 192 from by subst hc30; rfl]
    refine am_Rn.run am_h29 2 (F' := (194, [(0, .int v0), (1, .int v1), (2, .int v2)], [.int v2, .int v1])) (S' := S) rfl ?_
    refine am_Rn.ite am_h29 (c := v1 = v2) (t := 197) (f := 201) (lv := [(0, .int v0), (1, .int v1), (2, .int v2)]) (st := []) (S' := S) rfl hp (fun hc31 hp => ?_) (fun hc31 hp => ?_)
    · refine am_Rn.run am_h29 2 (F' := (202, [(0, .int v0), (1, .int v1), (2, .int v2)], [.int 1])) (S' := S) rfl ?_
      cases hp
      exact am_Rn.ret am_h29 rfl
    · refine am_Rn.run am_h29 1 (F' := (202, [(0, .int v0), (1, .int v1), (2, .int v2)], [.int 0])) (S' := S) rfl ?_
      cases hp
      exact am_Rn.ret am_h29 rfl
  refine am_ite hp (fun hc32 hp => ?_) (fun hc32 hp => ?_)
  · rw [show am_sw v0 0 251 [140, 144, 251, 251, 251, 251, 251, 251, 251, 251, 251, 251, 251, 251, 251, 251, 251, 251, 251, 251, 251, 148, 159, 170, 181, 192, 203, 214, 222, 230, 239] = 203 from by subst hc32; rfl]
    refine am_Rn.run am_h29 2 (F' := (205, [(0, .int v0), (1, .int v1), (2, .int v2)], [.int v2, .int v1])) (S' := S) rfl ?_
    refine am_Rn.ite am_h29 (c := v1 = v2) (t := 212) (f := 208) (lv := [(0, .int v0), (1, .int v1), (2, .int v2)]) (st := []) (S' := S) rfl hp (fun hc33 hp => ?_) (fun hc33 hp => ?_)
    · refine am_Rn.run am_h29 1 (F' := (213, [(0, .int v0), (1, .int v1), (2, .int v2)], [.int 0])) (S' := S) rfl ?_
      cases hp
      exact am_Rn.ret am_h29 rfl
    · refine am_Rn.run am_h29 2 (F' := (213, [(0, .int v0), (1, .int v1), (2, .int v2)], [.int 1])) (S' := S) rfl ?_
      cases hp
      exact am_Rn.ret am_h29 rfl
  refine am_ite hp (fun hc34 hp => ?_) (fun hc34 hp => ?_)
  · rw [show am_sw v0 0 251 [140, 144, 251, 251, 251, 251, 251, 251, 251, 251, 251, 251, 251, 251, 251, 251, 251, 251, 251, 251, 251, 148, 159, 170, 181, 192, 203, 214, 222, 230, 239] = 214 from by subst hc34; rfl]
    refine am_Rn.run am_h29 4 (F' := (218, [(0, .int v0), (1, .int v1), (2, .int v2)], [.long ((v1 + v2).toInt64)])) (S' := S) rfl ?_
    obtain ⟨r35, h_r35, hp⟩ := am_b_e hp
    refine am_Rn.call am_h29 (mj := 30) (As := [.long ((v1 + v2).toInt64)]) (F' := (221, [(0, .int v0), (1, .int v1), (2, .int v2)], [])) (M' := am_m30) (r := some (.int r35)) (S1 := S) rfl am_h30 rfl (by subst h_r35; exact (ezL_cut (by omega) ((v1 + v2).toInt64))) ?_
    cases hp
    exact am_Rn.ret am_h29 rfl
  refine am_ite hp (fun hc36 hp => ?_) (fun hc36 hp => ?_)
  · rw [show am_sw v0 0 251 [140, 144, 251, 251, 251, 251, 251, 251, 251, 251, 251, 251, 251, 251, 251, 251, 251, 251, 251, 251, 251, 148, 159, 170, 181, 192, 203, 214, 222, 230, 239] = 222 from by subst hc36; rfl]
    refine am_Rn.run am_h29 4 (F' := (226, [(0, .int v0), (1, .int v1), (2, .int v2)], [.long ((v1 - v2).toInt64)])) (S' := S) rfl ?_
    obtain ⟨r37, h_r37, hp⟩ := am_b_e hp
    refine am_Rn.call am_h29 (mj := 30) (As := [.long ((v1 - v2).toInt64)]) (F' := (229, [(0, .int v0), (1, .int v1), (2, .int v2)], [])) (M' := am_m30) (r := some (.int r37)) (S1 := S) rfl am_h30 rfl (by subst h_r37; exact (ezL_cut (by omega) ((v1 - v2).toInt64))) ?_
    cases hp
    exact am_Rn.ret am_h29 rfl
  refine am_ite hp (fun hc38 hp => ?_) (fun hc38 hp => ?_)
  · rw [show am_sw v0 0 251 [140, 144, 251, 251, 251, 251, 251, 251, 251, 251, 251, 251, 251, 251, 251, 251, 251, 251, 251, 251, 251, 148, 159, 170, 181, 192, 203, 214, 222, 230, 239] = 230 from by subst hc38; rfl]
    refine am_Rn.run am_h29 5 (F' := (235, [(0, .int v0), (1, .int v1), (2, .int v2)], [.long ((v1.toInt64) * (v2.toInt64))])) (S' := S) rfl ?_
    obtain ⟨r39, h_r39, hp⟩ := am_b_e hp
    refine am_Rn.call am_h29 (mj := 30) (As := [.long ((v1.toInt64) * (v2.toInt64))]) (F' := (238, [(0, .int v0), (1, .int v1), (2, .int v2)], [])) (M' := am_m30) (r := some (.int r39)) (S1 := S) rfl am_h30 rfl (by subst h_r39; exact (ezL_cut (by omega) ((v1.toInt64) * (v2.toInt64)))) ?_
    cases hp
    exact am_Rn.ret am_h29 rfl
  refine am_ite hp (fun hc40 hp => ?_) (fun hc40 hp => ?_)
  · rw [show am_sw v0 0 251 [140, 144, 251, 251, 251, 251, 251, 251, 251, 251, 251, 251, 251, 251, 251, 251, 251, 251, 251, 251, 251, 148, 159, 170, 181, 192, 203, 214, 222, 230, 239] = 239 from by subst hc40; rfl]
    refine am_Rn.run am_h29 1 (F' := (240, [(0, .int v0), (1, .int v1), (2, .int v2)], [.int v2])) (S' := S) rfl ?_
    refine am_Rn.ite am_h29 (c := v2 = 0) (t := 243) (f := 247) (lv := [(0, .int v0), (1, .int v1), (2, .int v2)]) (st := []) (S' := S) rfl hp (fun hc41 hp => ?_) (fun hc41 hp => ?_)
    · refine am_Rn.run am_h29 2 (F' := (250, [(0, .int v0), (1, .int v1), (2, .int v2)], [.int 0])) (S' := S) rfl ?_
      cases hp
      exact am_Rn.ret am_h29 rfl
    · refine am_Rn.run am_h29 2 (F' := (249, [(0, .int v0), (1, .int v1), (2, .int v2)], [.int v2, .int v1])) (S' := S) rfl ?_
      obtain ⟨hn42, hp⟩ := am_no_e hp
      refine am_Rn.stepG am_h29 (c := v2 = 0) (F' := (250, [(0, .int v0), (1, .int v1), (2, .int v2)], [.int (v1 / v2)])) (S' := S) rfl hn42 ?_
      cases hp
      exact am_Rn.ret am_h29 rfl
  · rw [show am_sw v0 0 251 [140, 144, 251, 251, 251, 251, 251, 251, 251, 251, 251, 251, 251, 251, 251, 251, 251, 251, 251, 251, 251, 148, 159, 170, 181, 192, 203, 214, 222, 230, 239] = 251 from (if_neg hc1).trans ((if_neg hc2).trans ((if_neg hc3).trans ((if_neg hc4).trans ((if_neg hc5).trans ((if_neg hc6).trans ((if_neg hc7).trans ((if_neg hc8).trans ((if_neg hc9).trans ((if_neg hc10).trans ((if_neg hc11).trans ((if_neg hc12).trans ((if_neg hc13).trans ((if_neg hc14).trans ((if_neg hc15).trans ((if_neg hc16).trans ((if_neg hc17).trans ((if_neg hc18).trans ((if_neg hc19).trans ((if_neg hc20).trans ((if_neg hc21).trans ((if_neg hc22).trans ((if_neg hc24).trans ((if_neg hc26).trans ((if_neg hc28).trans ((if_neg hc30).trans ((if_neg hc32).trans ((if_neg hc34).trans ((if_neg hc36).trans ((if_neg hc38).trans ((if_neg hc40).trans (rfl)))))))))))))))))))))))))))))))]
    refine am_Rn.run am_h29 1 (F' := (252, [(0, .int v0), (1, .int v1), (2, .int v2)], [.int 0])) (S' := S) rfl ?_
    cases hp
    exact am_Rn.ret am_h29 rfl
end
