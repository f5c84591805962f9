section
variable {Xs : Nat × (Nat → Int32)} {hx hm : Nat → Nat → Int32} {g : Nat → Nat → Int64} {S : am_S}
/-- SixHandsModel.nameOf()I [83] -/
def zM_nameOf (w : zHM) : Int32 := if (w.1 83 10) = 2 then (am_b (zM_w6 102 105 103 117 114 101) fun r2 => if (lg_cmp (w.2 83 12) r2) = 0 then (0) else (am_b (zM_w4 107 105 110 100) fun r4 => if (lg_cmp (w.2 83 12) r4) = 0 then (1) else (am_b (zM_w5 112 108 97 99 101) fun r6 => if (lg_cmp (w.2 83 12) r6) = 0 then (2) else (am_b (zM_w4 98 101 97 116) fun r8 => if (lg_cmp (w.2 83 12) r8) = 0 then (3) else (am_b (zM_w3 119 104 111) fun r10 => if (lg_cmp (w.2 83 12) r10) = 0 then (4) else (am_b (zM_w5 114 105 103 104 116) fun r12 => if (lg_cmp (w.2 83 12) r12) = 0 then (5) else (am_b (zM_w4 102 114 111 109) fun r14 => if (lg_cmp (w.2 83 12) r14) = 0 then (6) else (if (lg_cmp (w.2 83 12) 29807) = 0 then (7) else (am_b (zM_w4 115 101 97 116) fun r17 => if (lg_cmp (w.2 83 12) r17) = 0 then (8) else (am_b (zM_w4 109 97 110 121) fun r19 => if (lg_cmp (w.2 83 12) r19) = 0 then (9) else ((-1)))))))))))) else ((-1))
set_option maxRecDepth 20000 in
theorem ezM_nameOf {d : Nat} (hd : 3 ≤ d) (w : zHM) : am_Ev 83 Xs am_P d 181 [.ref 83] (am_sh, hx, w.1, w.2) (some (.int ((zM_nameOf w))), (am_sh, hx, w.1, w.2)) := by
  obtain ⟨R, hp⟩ : ∃ R, zM_nameOf w = R := ⟨_, rfl⟩
  rw [hp]
  obtain ⟨d, rfl⟩ : ∃ k, d = k + 1 := ⟨d - 1, by omega⟩
  unfold zM_nameOf at hp
  show am_Rn 83 Xs am_P _ 181 (0, [(0, .ref 83)], []) _ _
  refine am_Rn.run am_h181 3 (F' := (5, [(0, .ref 83)], [.int 2, .int (w.1 83 10)])) (S' := (am_sh, hx, w.1, w.2)) rfl ?_
  refine am_Rn.ite am_h181 (c := (w.1 83 10) = 2) (t := 10) (f := 8) (lv := [(0, .ref 83)]) (st := []) (S' := (am_sh, hx, w.1, w.2)) rfl hp (fun hc1 hp => ?_) (fun hc1 hp => ?_)
  · refine am_Rn.run am_h181 8 (F' := (26, [(0, .ref 83)], [.int 101, .int 114, .int 117, .int 103, .int 105, .int 102, .long (w.2 83 12)])) (S' := (am_sh, hx, w.1, w.2)) rfl ?_
    obtain ⟨r2, h_r2, hp⟩ := am_b_e hp
    refine am_Rn.call am_h181 (mj := 175) (As := [.int 102, .int 105, .int 103, .int 117, .int 114, .int 101]) (F' := (29, [(0, .ref 83)], [.long (w.2 83 12)])) (M' := am_m175) (r := some (.long r2)) (S1 := (am_sh, hx, w.1, w.2)) rfl am_h175 rfl (by subst h_r2; exact (ezM_w6 (by omega) 102 105 103 117 114 101)) ?_
    refine am_Rn.run am_h181 1 (F' := (30, [(0, .ref 83)], [.int (lg_cmp (w.2 83 12) r2)])) (S' := (am_sh, hx, w.1, w.2)) rfl ?_
    refine am_Rn.ite am_h181 (c := (lg_cmp (w.2 83 12) r2) = 0) (t := 33) (f := 35) (lv := [(0, .ref 83)]) (st := []) (S' := (am_sh, hx, w.1, w.2)) rfl hp (fun hc3 hp => ?_) (fun hc3 hp => ?_)
    · refine am_Rn.run am_h181 1 (F' := (34, [(0, .ref 83)], [.int 0])) (S' := (am_sh, hx, w.1, w.2)) rfl ?_
      subst hp
      exact am_Rn.ret am_h181 rfl
    · refine am_Rn.run am_h181 6 (F' := (47, [(0, .ref 83)], [.int 100, .int 110, .int 105, .int 107, .long (w.2 83 12)])) (S' := (am_sh, hx, w.1, w.2)) rfl ?_
      obtain ⟨r4, h_r4, hp⟩ := am_b_e hp
      refine am_Rn.call am_h181 (mj := 174) (As := [.int 107, .int 105, .int 110, .int 100]) (F' := (50, [(0, .ref 83)], [.long (w.2 83 12)])) (M' := am_m174) (r := some (.long r4)) (S1 := (am_sh, hx, w.1, w.2)) rfl am_h174 rfl (by subst h_r4; exact (ezM_w4 (by omega) 107 105 110 100)) ?_
      refine am_Rn.run am_h181 1 (F' := (51, [(0, .ref 83)], [.int (lg_cmp (w.2 83 12) r4)])) (S' := (am_sh, hx, w.1, w.2)) rfl ?_
      refine am_Rn.ite am_h181 (c := (lg_cmp (w.2 83 12) r4) = 0) (t := 54) (f := 56) (lv := [(0, .ref 83)]) (st := []) (S' := (am_sh, hx, w.1, w.2)) rfl hp (fun hc5 hp => ?_) (fun hc5 hp => ?_)
      · refine am_Rn.run am_h181 1 (F' := (55, [(0, .ref 83)], [.int 1])) (S' := (am_sh, hx, w.1, w.2)) rfl ?_
        subst hp
        exact am_Rn.ret am_h181 rfl
      · refine am_Rn.run am_h181 7 (F' := (70, [(0, .ref 83)], [.int 101, .int 99, .int 97, .int 108, .int 112, .long (w.2 83 12)])) (S' := (am_sh, hx, w.1, w.2)) rfl ?_
        obtain ⟨r6, h_r6, hp⟩ := am_b_e hp
        refine am_Rn.call am_h181 (mj := 173) (As := [.int 112, .int 108, .int 97, .int 99, .int 101]) (F' := (73, [(0, .ref 83)], [.long (w.2 83 12)])) (M' := am_m173) (r := some (.long r6)) (S1 := (am_sh, hx, w.1, w.2)) rfl am_h173 rfl (by subst h_r6; exact (ezM_w5 (by omega) 112 108 97 99 101)) ?_
        refine am_Rn.run am_h181 1 (F' := (74, [(0, .ref 83)], [.int (lg_cmp (w.2 83 12) r6)])) (S' := (am_sh, hx, w.1, w.2)) rfl ?_
        refine am_Rn.ite am_h181 (c := (lg_cmp (w.2 83 12) r6) = 0) (t := 77) (f := 79) (lv := [(0, .ref 83)]) (st := []) (S' := (am_sh, hx, w.1, w.2)) rfl hp (fun hc7 hp => ?_) (fun hc7 hp => ?_)
        · refine am_Rn.run am_h181 1 (F' := (78, [(0, .ref 83)], [.int 2])) (S' := (am_sh, hx, w.1, w.2)) rfl ?_
          subst hp
          exact am_Rn.ret am_h181 rfl
        · refine am_Rn.run am_h181 6 (F' := (91, [(0, .ref 83)], [.int 116, .int 97, .int 101, .int 98, .long (w.2 83 12)])) (S' := (am_sh, hx, w.1, w.2)) rfl ?_
          obtain ⟨r8, h_r8, hp⟩ := am_b_e hp
          refine am_Rn.call am_h181 (mj := 174) (As := [.int 98, .int 101, .int 97, .int 116]) (F' := (94, [(0, .ref 83)], [.long (w.2 83 12)])) (M' := am_m174) (r := some (.long r8)) (S1 := (am_sh, hx, w.1, w.2)) rfl am_h174 rfl (by subst h_r8; exact (ezM_w4 (by omega) 98 101 97 116)) ?_
          refine am_Rn.run am_h181 1 (F' := (95, [(0, .ref 83)], [.int (lg_cmp (w.2 83 12) r8)])) (S' := (am_sh, hx, w.1, w.2)) rfl ?_
          refine am_Rn.ite am_h181 (c := (lg_cmp (w.2 83 12) r8) = 0) (t := 98) (f := 100) (lv := [(0, .ref 83)]) (st := []) (S' := (am_sh, hx, w.1, w.2)) rfl hp (fun hc9 hp => ?_) (fun hc9 hp => ?_)
          · refine am_Rn.run am_h181 1 (F' := (99, [(0, .ref 83)], [.int 3])) (S' := (am_sh, hx, w.1, w.2)) rfl ?_
            subst hp
            exact am_Rn.ret am_h181 rfl
          · refine am_Rn.run am_h181 5 (F' := (110, [(0, .ref 83)], [.int 111, .int 104, .int 119, .long (w.2 83 12)])) (S' := (am_sh, hx, w.1, w.2)) rfl ?_
            obtain ⟨r10, h_r10, hp⟩ := am_b_e hp
            refine am_Rn.call am_h181 (mj := 172) (As := [.int 119, .int 104, .int 111]) (F' := (113, [(0, .ref 83)], [.long (w.2 83 12)])) (M' := am_m172) (r := some (.long r10)) (S1 := (am_sh, hx, w.1, w.2)) rfl am_h172 rfl (by subst h_r10; exact (ezM_w3 (by omega) 119 104 111)) ?_
            refine am_Rn.run am_h181 1 (F' := (114, [(0, .ref 83)], [.int (lg_cmp (w.2 83 12) r10)])) (S' := (am_sh, hx, w.1, w.2)) rfl ?_
            refine am_Rn.ite am_h181 (c := (lg_cmp (w.2 83 12) r10) = 0) (t := 117) (f := 119) (lv := [(0, .ref 83)]) (st := []) (S' := (am_sh, hx, w.1, w.2)) rfl hp (fun hc11 hp => ?_) (fun hc11 hp => ?_)
            · refine am_Rn.run am_h181 1 (F' := (118, [(0, .ref 83)], [.int 4])) (S' := (am_sh, hx, w.1, w.2)) rfl ?_
              subst hp
              exact am_Rn.ret am_h181 rfl
            · refine am_Rn.run am_h181 7 (F' := (133, [(0, .ref 83)], [.int 116, .int 104, .int 103, .int 105, .int 114, .long (w.2 83 12)])) (S' := (am_sh, hx, w.1, w.2)) rfl ?_
              obtain ⟨r12, h_r12, hp⟩ := am_b_e hp
              refine am_Rn.call am_h181 (mj := 173) (As := [.int 114, .int 105, .int 103, .int 104, .int 116]) (F' := (136, [(0, .ref 83)], [.long (w.2 83 12)])) (M' := am_m173) (r := some (.long r12)) (S1 := (am_sh, hx, w.1, w.2)) rfl am_h173 rfl (by subst h_r12; exact (ezM_w5 (by omega) 114 105 103 104 116)) ?_
              refine am_Rn.run am_h181 1 (F' := (137, [(0, .ref 83)], [.int (lg_cmp (w.2 83 12) r12)])) (S' := (am_sh, hx, w.1, w.2)) rfl ?_
              refine am_Rn.ite am_h181 (c := (lg_cmp (w.2 83 12) r12) = 0) (t := 140) (f := 142) (lv := [(0, .ref 83)]) (st := []) (S' := (am_sh, hx, w.1, w.2)) rfl hp (fun hc13 hp => ?_) (fun hc13 hp => ?_)
              · refine am_Rn.run am_h181 1 (F' := (141, [(0, .ref 83)], [.int 5])) (S' := (am_sh, hx, w.1, w.2)) rfl ?_
                subst hp
                exact am_Rn.ret am_h181 rfl
              · refine am_Rn.run am_h181 6 (F' := (154, [(0, .ref 83)], [.int 109, .int 111, .int 114, .int 102, .long (w.2 83 12)])) (S' := (am_sh, hx, w.1, w.2)) rfl ?_
                obtain ⟨r14, h_r14, hp⟩ := am_b_e hp
                refine am_Rn.call am_h181 (mj := 174) (As := [.int 102, .int 114, .int 111, .int 109]) (F' := (157, [(0, .ref 83)], [.long (w.2 83 12)])) (M' := am_m174) (r := some (.long r14)) (S1 := (am_sh, hx, w.1, w.2)) rfl am_h174 rfl (by subst h_r14; exact (ezM_w4 (by omega) 102 114 111 109)) ?_
                refine am_Rn.run am_h181 1 (F' := (158, [(0, .ref 83)], [.int (lg_cmp (w.2 83 12) r14)])) (S' := (am_sh, hx, w.1, w.2)) rfl ?_
                refine am_Rn.ite am_h181 (c := (lg_cmp (w.2 83 12) r14) = 0) (t := 161) (f := 164) (lv := [(0, .ref 83)]) (st := []) (S' := (am_sh, hx, w.1, w.2)) rfl hp (fun hc15 hp => ?_) (fun hc15 hp => ?_)
                · refine am_Rn.run am_h181 1 (F' := (163, [(0, .ref 83)], [.int 6])) (S' := (am_sh, hx, w.1, w.2)) rfl ?_
                  subst hp
                  exact am_Rn.ret am_h181 rfl
                · refine am_Rn.run am_h181 4 (F' := (172, [(0, .ref 83)], [.int (lg_cmp (w.2 83 12) 29807)])) (S' := (am_sh, hx, w.1, w.2)) rfl ?_
                  refine am_Rn.ite am_h181 (c := (lg_cmp (w.2 83 12) 29807) = 0) (t := 175) (f := 178) (lv := [(0, .ref 83)]) (st := []) (S' := (am_sh, hx, w.1, w.2)) rfl hp (fun hc16 hp => ?_) (fun hc16 hp => ?_)
                  · refine am_Rn.run am_h181 1 (F' := (177, [(0, .ref 83)], [.int 7])) (S' := (am_sh, hx, w.1, w.2)) rfl ?_
                    subst hp
                    exact am_Rn.ret am_h181 rfl
                  · refine am_Rn.run am_h181 6 (F' := (190, [(0, .ref 83)], [.int 116, .int 97, .int 101, .int 115, .long (w.2 83 12)])) (S' := (am_sh, hx, w.1, w.2)) rfl ?_
                    obtain ⟨r17, h_r17, hp⟩ := am_b_e hp
                    refine am_Rn.call am_h181 (mj := 174) (As := [.int 115, .int 101, .int 97, .int 116]) (F' := (193, [(0, .ref 83)], [.long (w.2 83 12)])) (M' := am_m174) (r := some (.long r17)) (S1 := (am_sh, hx, w.1, w.2)) rfl am_h174 rfl (by subst h_r17; exact (ezM_w4 (by omega) 115 101 97 116)) ?_
                    refine am_Rn.run am_h181 1 (F' := (194, [(0, .ref 83)], [.int (lg_cmp (w.2 83 12) r17)])) (S' := (am_sh, hx, w.1, w.2)) rfl ?_
                    refine am_Rn.ite am_h181 (c := (lg_cmp (w.2 83 12) r17) = 0) (t := 197) (f := 202) (lv := [(0, .ref 83)]) (st := []) (S' := (am_sh, hx, w.1, w.2)) rfl hp (fun hc18 hp => ?_) (fun hc18 hp => ?_)
                    · refine am_Rn.run am_h181 2 (F' := (227, [(0, .ref 83)], [.int 8])) (S' := (am_sh, hx, w.1, w.2)) rfl ?_
                      subst hp
                      exact am_Rn.ret am_h181 rfl
                    · refine am_Rn.run am_h181 6 (F' := (214, [(0, .ref 83)], [.int 121, .int 110, .int 97, .int 109, .long (w.2 83 12)])) (S' := (am_sh, hx, w.1, w.2)) rfl ?_
                      obtain ⟨r19, h_r19, hp⟩ := am_b_e hp
                      refine am_Rn.call am_h181 (mj := 174) (As := [.int 109, .int 97, .int 110, .int 121]) (F' := (217, [(0, .ref 83)], [.long (w.2 83 12)])) (M' := am_m174) (r := some (.long r19)) (S1 := (am_sh, hx, w.1, w.2)) rfl am_h174 rfl (by subst h_r19; exact (ezM_w4 (by omega) 109 97 110 121)) ?_
                      refine am_Rn.run am_h181 1 (F' := (218, [(0, .ref 83)], [.int (lg_cmp (w.2 83 12) r19)])) (S' := (am_sh, hx, w.1, w.2)) rfl ?_
                      refine am_Rn.ite am_h181 (c := (lg_cmp (w.2 83 12) r19) = 0) (t := 221) (f := 226) (lv := [(0, .ref 83)]) (st := []) (S' := (am_sh, hx, w.1, w.2)) rfl hp (fun hc20 hp => ?_) (fun hc20 hp => ?_)
                      · refine am_Rn.run am_h181 2 (F' := (227, [(0, .ref 83)], [.int 9])) (S' := (am_sh, hx, w.1, w.2)) rfl ?_
                        subst hp
                        exact am_Rn.ret am_h181 rfl
                      · refine am_Rn.run am_h181 1 (F' := (227, [(0, .ref 83)], [.int (-1)])) (S' := (am_sh, hx, w.1, w.2)) rfl ?_
                        subst hp
                        exact am_Rn.ret am_h181 rfl
  · refine am_Rn.run am_h181 1 (F' := (9, [(0, .ref 83)], [.int (-1)])) (S' := (am_sh, hx, w.1, w.2)) rfl ?_
    subst hp
    exact am_Rn.ret am_h181 rfl
/-- SixHandsModel.push(I)V [83] -/
def zM_push (v1 : Int32) (w : zHM) : Option (zHM) := am_ix 160 (w.1 83 18) (am_b ((va_up w.1 88 (upd (w.1 88) ((w.1 83 18).toNatClampNeg) v1), w.2)) fun w2 => am_b ((va_up w2.1 83 (upd (w2.1 83) 18 ((w2.1 83 18) + 1)), w2.2)) fun w3 => some w3)
set_option maxRecDepth 20000 in
theorem ezM_push {d : Nat} (hd : 0 ≤ d) (v1 : Int32) (w : zHM) (R : zHM) (hp : zM_push v1 w = some R) : am_Ev 83 Xs am_P d 178 [.ref 83, .int v1] (am_sh, hx, w.1, w.2) (none, (am_sh, hx, R.1, R.2)) := by
  unfold zM_push at hp
  show am_Rn 83 Xs am_P _ 178 (0, [(0, .ref 83), (1, .int v1)], []) _ _
  refine am_Rn.run am_h178 5 (F' := (9, [(0, .ref 83), (1, .int v1)], [.int v1, .int (w.1 83 18), .ref 88])) (S' := (am_sh, hx, w.1, w.2)) rfl ?_
  obtain ⟨hn1, hp⟩ := am_ix_e hp
  obtain ⟨w2, h_w2, hp⟩ := am_b_e hp
  refine am_Rn.stepG am_h178 (c := (w.1 83 18) < 0 ∨ 160 ≤ (w.1 83 18).toNatClampNeg) (F' := (10, [(0, .ref 83), (1, .int v1)], [])) (S' := (am_sh, hx, w2.1, w2.2)) (by subst h_w2; rfl) hn1 ?_
  obtain ⟨w3, h_w3, hp⟩ := am_b_e hp
  refine am_Rn.run am_h178 6 (F' := (20, [(0, .ref 83), (1, .int v1)], [])) (S' := (am_sh, hx, w3.1, w3.2)) (by subst h_w3; rfl) ?_
  cases hp
  exact am_Rn.ret am_h178 rfl
/-- SixHandsModel.isBarred(I)Z [83] -/
def zM_isBarred (v1 : Int32) (w : zHM) : Int32 := if 3 < v1 then (if ((v1 / 2) - 2) = (w.1 83 21) then (0) else (1)) else (0)
set_option maxRecDepth 20000 in
theorem ezM_isBarred {d : Nat} (hd : 0 ≤ d) (v1 : Int32) (w : zHM) : am_Ev 83 Xs am_P d 182 [.ref 83, .int v1] (am_sh, hx, w.1, w.2) (some (.int ((zM_isBarred v1 w))), (am_sh, hx, w.1, w.2)) := by
  obtain ⟨R, hp⟩ : ∃ R, zM_isBarred v1 w = R := ⟨_, rfl⟩
  rw [hp]
  unfold zM_isBarred at hp
  show am_Rn 83 Xs am_P _ 182 (0, [(0, .ref 83), (1, .int v1)], []) _ _
  refine am_Rn.run am_h182 2 (F' := (2, [(0, .ref 83), (1, .int v1)], [.int 3, .int v1])) (S' := (am_sh, hx, w.1, w.2)) rfl ?_
  refine am_Rn.ite am_h182 (c := 3 < v1) (t := 5) (f := 21) (lv := [(0, .ref 83), (1, .int v1)]) (st := []) (S' := (am_sh, hx, w.1, w.2)) rfl hp (fun hc1 hp => ?_) (fun hc1 hp => ?_)
  · refine am_Rn.run am_h182 7 (F' := (14, [(0, .ref 83), (1, .int v1)], [.int (w.1 83 21), .int ((v1 / 2) - 2)])) (S' := (am_sh, hx, w.1, w.2)) rfl ?_
    refine am_Rn.ite am_h182 (c := ((v1 / 2) - 2) = (w.1 83 21)) (t := 21) (f := 17) (lv := [(0, .ref 83), (1, .int v1)]) (st := []) (S' := (am_sh, hx, w.1, w.2)) rfl hp (fun hc2 hp => ?_) (fun hc2 hp => ?_)
    · refine am_Rn.run am_h182 1 (F' := (22, [(0, .ref 83), (1, .int v1)], [.int 0])) (S' := (am_sh, hx, w.1, w.2)) rfl ?_
      subst hp
      exact am_Rn.ret am_h182 rfl
    · refine am_Rn.run am_h182 2 (F' := (22, [(0, .ref 83), (1, .int v1)], [.int 1])) (S' := (am_sh, hx, w.1, w.2)) rfl ?_
      subst hp
      exact am_Rn.ret am_h182 rfl
  · refine am_Rn.run am_h182 1 (F' := (22, [(0, .ref 83), (1, .int v1)], [.int 0])) (S' := (am_sh, hx, w.1, w.2)) rfl ?_
    subst hp
    exact am_Rn.ret am_h182 rfl
/-- SixHandsModel.beginOne()I [83] -/
def zM_beginOne_J106 (s0 : Int32) (w : zHM) : Option (Int32 × zHM) := if s0 = 0 then (some ((1, w))) else (if (w.1 83 19) = 8 then (some ((3, w))) else (am_b ((va_up w.1 83 (upd (w.1 83) 19 ((w.1 83 19) + 1)), w.2)) fun w11 => (zM_push s0 w11).bind fun r12 => (zM_nextToken r12).bind fun r13 => some ((0, r13))))
set_option maxRecDepth 20000 in
theorem ezM_beginOne_J106 {d : Nat} (hd : 4 ≤ d) (R : Int32 × zHM) (s0 : Int32) (w : zHM) (hp : zM_beginOne_J106 s0 w = some R) : am_Rn 83 Xs am_P d 183 (106, [(0, .ref 83)], [.int s0]) (am_sh, hx, w.1, w.2) (some (.int R.1), (am_sh, hx, R.2.1, R.2.2)) := by
  obtain ⟨d, rfl⟩ : ∃ k, d = k + 1 := ⟨d - 1, by omega⟩
  unfold zM_beginOne_J106 at hp
  refine am_Rn.run am_h183 2 (F' := (108, [(1, .int s0), (0, .ref 83)], [.int s0])) (S' := (am_sh, hx, w.1, w.2)) rfl ?_
  refine am_Rn.ite am_h183 (c := s0 = 0) (t := 111) (f := 113) (lv := [(1, .int s0), (0, .ref 83)]) (st := []) (S' := (am_sh, hx, w.1, w.2)) rfl hp (fun hc9 hp => ?_) (fun hc9 hp => ?_)
  · refine am_Rn.run am_h183 1 (F' := (112, [(1, .int s0), (0, .ref 83)], [.int 1])) (S' := (am_sh, hx, w.1, w.2)) rfl ?_
    cases hp
    exact am_Rn.ret am_h183 rfl
  · refine am_Rn.run am_h183 3 (F' := (119, [(1, .int s0), (0, .ref 83)], [.int 8, .int (w.1 83 19)])) (S' := (am_sh, hx, w.1, w.2)) rfl ?_
    refine am_Rn.ite am_h183 (c := (w.1 83 19) = 8) (t := 122) (f := 124) (lv := [(1, .int s0), (0, .ref 83)]) (st := []) (S' := (am_sh, hx, w.1, w.2)) rfl hp (fun hc10 hp => ?_) (fun hc10 hp => ?_)
    · refine am_Rn.run am_h183 1 (F' := (123, [(1, .int s0), (0, .ref 83)], [.int 3])) (S' := (am_sh, hx, w.1, w.2)) rfl ?_
      cases hp
      exact am_Rn.ret am_h183 rfl
    · obtain ⟨w11, h_w11, hp⟩ := am_b_e hp
      refine am_Rn.run am_h183 8 (F' := (136, [(1, .int s0), (0, .ref 83)], [.int s0, .ref 83])) (S' := (am_sh, hx, w11.1, w11.2)) (by subst h_w11; rfl) ?_
      obtain ⟨r12, h_r12, hp⟩ := am_bind hp
      refine am_Rn.call am_h183 (mj := 178) (As := [.ref 83, .int s0]) (F' := (139, [(1, .int s0), (0, .ref 83)], [])) (M' := am_m178) (r := none) (S1 := (am_sh, hx, r12.1, r12.2)) rfl am_h178 rfl (ezM_push (by omega) s0 w11 _ h_r12) ?_
      refine am_Rn.run am_h183 1 (F' := (140, [(1, .int s0), (0, .ref 83)], [.ref 83])) (S' := (am_sh, hx, r12.1, r12.2)) rfl ?_
      obtain ⟨r13, h_r13, hp⟩ := am_bind hp
      refine am_Rn.call am_h183 (mj := 171) (As := [.ref 83]) (F' := (143, [(1, .int s0), (0, .ref 83)], [])) (M' := am_m171) (r := none) (S1 := (am_sh, hx, r13.1, r13.2)) rfl am_h171 rfl (ezM_nextToken (by omega) r12 _ h_r13) ?_
      refine am_Rn.run am_h183 1 (F' := (144, [(1, .int s0), (0, .ref 83)], [.int 0])) (S' := (am_sh, hx, r13.1, r13.2)) rfl ?_
      cases hp
      exact am_Rn.ret am_h183 rfl
def zM_beginOne (w : zHM) : Option (Int32 × zHM) := if (w.1 83 10) = 1 then (if 9999 < (w.1 83 11) then (some ((2, w))) else ((zM_emit 0 (w.1 83 11) w).bind fun r3 => (zM_nextToken r3).bind fun r4 => (zM_whole r4).bind fun r5 => some ((0, r5)))) else (am_b (zM_nameOf w) fun r6 => if r6 < 0 then (if (w.1 83 10) = 40 then (zM_beginOne_J106 40 w) else (if (w.1 83 10) = 45 then (zM_beginOne_J106 2 w) else (zM_beginOne_J106 0 w))) else (am_b (zM_nameOf w) fun r15 => am_b (zM_isBarred r15 w) fun r16 => if r16 = 0 then (am_b (zM_nameOf w) fun r18 => (zM_emit 1 r18 w).bind fun r19 => (zM_nextToken r19).bind fun r20 => (zM_whole r20).bind fun r21 => some ((0, r21))) else (some ((5, w)))))
set_option maxRecDepth 20000 in
theorem ezM_beginOne {d : Nat} (hd : 4 ≤ d) (w : zHM) (R : Int32 × zHM) (hp : zM_beginOne w = some R) : am_Ev 83 Xs am_P d 183 [.ref 83] (am_sh, hx, w.1, w.2) (some (.int R.1), (am_sh, hx, R.2.1, R.2.2)) := by
  obtain ⟨d, rfl⟩ : ∃ k, d = k + 1 := ⟨d - 1, by omega⟩
  unfold zM_beginOne at hp
  show am_Rn 83 Xs am_P _ 183 (0, [(0, .ref 83)], []) _ _
  refine am_Rn.run am_h183 3 (F' := (5, [(0, .ref 83)], [.int 1, .int (w.1 83 10)])) (S' := (am_sh, hx, w.1, w.2)) rfl ?_
  refine am_Rn.ite am_h183 (c := (w.1 83 10) = 1) (t := 8) (f := 39) (lv := [(0, .ref 83)]) (st := []) (S' := (am_sh, hx, w.1, w.2)) rfl hp (fun hc1 hp => ?_) (fun hc1 hp => ?_)
  · refine am_Rn.run am_h183 3 (F' := (15, [(0, .ref 83)], [.int 9999, .int (w.1 83 11)])) (S' := (am_sh, hx, w.1, w.2)) rfl ?_
    refine am_Rn.ite am_h183 (c := 9999 < (w.1 83 11)) (t := 18) (f := 20) (lv := [(0, .ref 83)]) (st := []) (S' := (am_sh, hx, w.1, w.2)) rfl hp (fun hc2 hp => ?_) (fun hc2 hp => ?_)
    · refine am_Rn.run am_h183 1 (F' := (19, [(0, .ref 83)], [.int 2])) (S' := (am_sh, hx, w.1, w.2)) rfl ?_
      cases hp
      exact am_Rn.ret am_h183 rfl
    · refine am_Rn.run am_h183 4 (F' := (26, [(0, .ref 83)], [.int (w.1 83 11), .int 0, .ref 83])) (S' := (am_sh, hx, w.1, w.2)) rfl ?_
      obtain ⟨r3, h_r3, hp⟩ := am_bind hp
      refine am_Rn.call am_h183 (mj := 177) (As := [.ref 83, .int 0, .int (w.1 83 11)]) (F' := (29, [(0, .ref 83)], [])) (M' := am_m177) (r := none) (S1 := (am_sh, hx, r3.1, r3.2)) rfl am_h177 rfl (ezM_emit (by omega) 0 (w.1 83 11) w _ h_r3) ?_
      refine am_Rn.run am_h183 1 (F' := (30, [(0, .ref 83)], [.ref 83])) (S' := (am_sh, hx, r3.1, r3.2)) rfl ?_
      obtain ⟨r4, h_r4, hp⟩ := am_bind hp
      refine am_Rn.call am_h183 (mj := 171) (As := [.ref 83]) (F' := (33, [(0, .ref 83)], [])) (M' := am_m171) (r := none) (S1 := (am_sh, hx, r4.1, r4.2)) rfl am_h171 rfl (ezM_nextToken (by omega) r3 _ h_r4) ?_
      refine am_Rn.run am_h183 1 (F' := (34, [(0, .ref 83)], [.ref 83])) (S' := (am_sh, hx, r4.1, r4.2)) rfl ?_
      obtain ⟨r5, h_r5, hp⟩ := am_bind hp
      refine am_Rn.call am_h183 (mj := 179) (As := [.ref 83]) (F' := (37, [(0, .ref 83)], [])) (M' := am_m179) (r := none) (S1 := (am_sh, hx, r5.1, r5.2)) rfl am_h179 rfl (ezM_whole (by omega) r4 _ h_r5) ?_
      refine am_Rn.run am_h183 1 (F' := (38, [(0, .ref 83)], [.int 0])) (S' := (am_sh, hx, r5.1, r5.2)) rfl ?_
      cases hp
      exact am_Rn.ret am_h183 rfl
  · refine am_Rn.run am_h183 1 (F' := (40, [(0, .ref 83)], [.ref 83])) (S' := (am_sh, hx, w.1, w.2)) rfl ?_
    obtain ⟨r6, h_r6, hp⟩ := am_b_e hp
    refine am_Rn.call am_h183 (mj := 181) (As := [.ref 83]) (F' := (43, [(0, .ref 83)], [])) (M' := am_m181) (r := some (.int r6)) (S1 := (am_sh, hx, w.1, w.2)) rfl am_h181 rfl (by subst h_r6; exact (ezM_nameOf (by omega) w)) ?_
    refine am_Rn.ite am_h183 (c := r6 < 0) (t := 78) (f := 46) (lv := [(0, .ref 83)]) (st := []) (S' := (am_sh, hx, w.1, w.2)) rfl hp (fun hc7 hp => ?_) (fun hc7 hp => ?_)
    · refine am_Rn.run am_h183 3 (F' := (84, [(0, .ref 83)], [.int 40, .int (w.1 83 10)])) (S' := (am_sh, hx, w.1, w.2)) rfl ?_
      refine am_Rn.ite am_h183 (c := (w.1 83 10) = 40) (t := 87) (f := 92) (lv := [(0, .ref 83)]) (st := []) (S' := (am_sh, hx, w.1, w.2)) rfl hp (fun hc8 hp => ?_) (fun hc8 hp => ?_)
      · refine am_Rn.run am_h183 2 (F' := (106, [(0, .ref 83)], [.int 40])) (S' := (am_sh, hx, w.1, w.2)) rfl ?_
        exact ezM_beginOne_J106 hd R 40 w hp
      · refine am_Rn.run am_h183 3 (F' := (98, [(0, .ref 83)], [.int 45, .int (w.1 83 10)])) (S' := (am_sh, hx, w.1, w.2)) rfl ?_
        refine am_Rn.ite am_h183 (c := (w.1 83 10) = 45) (t := 101) (f := 105) (lv := [(0, .ref 83)]) (st := []) (S' := (am_sh, hx, w.1, w.2)) rfl hp (fun hc14 hp => ?_) (fun hc14 hp => ?_)
        · refine am_Rn.run am_h183 2 (F' := (106, [(0, .ref 83)], [.int 2])) (S' := (am_sh, hx, w.1, w.2)) rfl ?_
          exact ezM_beginOne_J106 hd R 2 w hp
        · refine am_Rn.run am_h183 1 (F' := (106, [(0, .ref 83)], [.int 0])) (S' := (am_sh, hx, w.1, w.2)) rfl ?_
          exact ezM_beginOne_J106 hd R 0 w hp
    · refine am_Rn.run am_h183 2 (F' := (48, [(0, .ref 83)], [.ref 83, .ref 83])) (S' := (am_sh, hx, w.1, w.2)) rfl ?_
      obtain ⟨r15, h_r15, hp⟩ := am_b_e hp
      refine am_Rn.call am_h183 (mj := 181) (As := [.ref 83]) (F' := (51, [(0, .ref 83)], [.ref 83])) (M' := am_m181) (r := some (.int r15)) (S1 := (am_sh, hx, w.1, w.2)) rfl am_h181 rfl (by subst h_r15; exact (ezM_nameOf (by omega) w)) ?_
      obtain ⟨r16, h_r16, hp⟩ := am_b_e hp
      refine am_Rn.call am_h183 (mj := 182) (As := [.ref 83, .int r15]) (F' := (54, [(0, .ref 83)], [])) (M' := am_m182) (r := some (.int r16)) (S1 := (am_sh, hx, w.1, w.2)) rfl am_h182 rfl (by subst h_r16; exact (ezM_isBarred (by omega) r15 w)) ?_
      refine am_Rn.ite am_h183 (c := r16 = 0) (t := 59) (f := 57) (lv := [(0, .ref 83)]) (st := []) (S' := (am_sh, hx, w.1, w.2)) rfl hp (fun hc17 hp => ?_) (fun hc17 hp => ?_)
      · refine am_Rn.run am_h183 3 (F' := (62, [(0, .ref 83)], [.ref 83, .int 1, .ref 83])) (S' := (am_sh, hx, w.1, w.2)) rfl ?_
        obtain ⟨r18, h_r18, hp⟩ := am_b_e hp
        refine am_Rn.call am_h183 (mj := 181) (As := [.ref 83]) (F' := (65, [(0, .ref 83)], [.int 1, .ref 83])) (M' := am_m181) (r := some (.int r18)) (S1 := (am_sh, hx, w.1, w.2)) rfl am_h181 rfl (by subst h_r18; exact (ezM_nameOf (by omega) w)) ?_
        obtain ⟨r19, h_r19, hp⟩ := am_bind hp
        refine am_Rn.call am_h183 (mj := 177) (As := [.ref 83, .int 1, .int r18]) (F' := (68, [(0, .ref 83)], [])) (M' := am_m177) (r := none) (S1 := (am_sh, hx, r19.1, r19.2)) rfl am_h177 rfl (ezM_emit (by omega) 1 r18 w _ h_r19) ?_
        refine am_Rn.run am_h183 1 (F' := (69, [(0, .ref 83)], [.ref 83])) (S' := (am_sh, hx, r19.1, r19.2)) rfl ?_
        obtain ⟨r20, h_r20, hp⟩ := am_bind hp
        refine am_Rn.call am_h183 (mj := 171) (As := [.ref 83]) (F' := (72, [(0, .ref 83)], [])) (M' := am_m171) (r := none) (S1 := (am_sh, hx, r20.1, r20.2)) rfl am_h171 rfl (ezM_nextToken (by omega) r19 _ h_r20) ?_
        refine am_Rn.run am_h183 1 (F' := (73, [(0, .ref 83)], [.ref 83])) (S' := (am_sh, hx, r20.1, r20.2)) rfl ?_
        obtain ⟨r21, h_r21, hp⟩ := am_bind hp
        refine am_Rn.call am_h183 (mj := 179) (As := [.ref 83]) (F' := (76, [(0, .ref 83)], [])) (M' := am_m179) (r := none) (S1 := (am_sh, hx, r21.1, r21.2)) rfl am_h179 rfl (ezM_whole (by omega) r20 _ h_r21) ?_
        refine am_Rn.run am_h183 1 (F' := (77, [(0, .ref 83)], [.int 0])) (S' := (am_sh, hx, r21.1, r21.2)) rfl ?_
        cases hp
        exact am_Rn.ret am_h183 rfl
      · refine am_Rn.run am_h183 1 (F' := (58, [(0, .ref 83)], [.int 5])) (S' := (am_sh, hx, w.1, w.2)) rfl ?_
        cases hp
        exact am_Rn.ret am_h183 rfl
/-- SixHandsModel.settle(I)V [83] -/
def zM_settle_L0 : Nat → Int32 → zHM → Option (zHM)
  | 0, _, _ => none
  | n + 1, v1, w => if 0 < (w.1 83 18) then (am_ix 160 ((w.1 83 18) - 1) (if (w.1 88 (((w.1 83 18) - 1).toNatClampNeg)) < 40 then (am_ix 160 ((w.1 83 18) - 1) (if (w.1 88 (((w.1 83 18) - 1).toNatClampNeg)) < v1 then (some w) else (am_b ((va_up w.1 83 (upd (w.1 83) 18 ((w.1 83 18) - 1)), w.2)) fun w6 => am_ix 160 (w6.1 83 18) ((zM_emit (w6.1 88 ((w6.1 83 18).toNatClampNeg)) 0 w6).bind fun r8 => zM_settle_L0 n v1 r8)))) else (some w))) else (some w)
set_option maxRecDepth 20000 in
theorem ezM_settle_L0 {d : Nat} (hd : 1 ≤ d) (R : zHM) : ∀ (n : Nat) (v1 : Int32) (w : zHM), zM_settle_L0 n v1 w = some R → am_Rn 83 Xs am_P d 180 (0, [(0, .ref 83), (1, .int v1)], []) (am_sh, hx, w.1, w.2) (none, (am_sh, hx, R.1, R.2))
  | 0, _, _, hp => by cases hp
  | n + 1, v1, w, hp => by
    obtain ⟨d, rfl⟩ : ∃ k, d = k + 1 := ⟨d - 1, by omega⟩
    unfold zM_settle_L0 at hp
    refine am_Rn.run am_h180 2 (F' := (4, [(0, .ref 83), (1, .int v1)], [.int (w.1 83 18)])) (S' := (am_sh, hx, w.1, w.2)) rfl ?_
    refine am_Rn.ite am_h180 (c := 0 < (w.1 83 18)) (t := 7) (f := 65) (lv := [(0, .ref 83), (1, .int v1)]) (st := []) (S' := (am_sh, hx, w.1, w.2)) rfl hp (fun hc1 hp => ?_) (fun hc1 hp => ?_)
    · refine am_Rn.run am_h180 6 (F' := (17, [(0, .ref 83), (1, .int v1)], [.int ((w.1 83 18) - 1), .ref 88])) (S' := (am_sh, hx, w.1, w.2)) rfl ?_
      obtain ⟨hn2, hp⟩ := am_ix_e hp
      refine am_Rn.stepG am_h180 (c := ((w.1 83 18) - 1) < 0 ∨ 160 ≤ ((w.1 83 18) - 1).toNatClampNeg) (F' := (18, [(0, .ref 83), (1, .int v1)], [.int (w.1 88 (((w.1 83 18) - 1).toNatClampNeg))])) (S' := (am_sh, hx, w.1, w.2)) rfl hn2 ?_
      refine am_Rn.run am_h180 1 (F' := (20, [(0, .ref 83), (1, .int v1)], [.int 40, .int (w.1 88 (((w.1 83 18) - 1).toNatClampNeg))])) (S' := (am_sh, hx, w.1, w.2)) rfl ?_
      refine am_Rn.ite am_h180 (c := (w.1 88 (((w.1 83 18) - 1).toNatClampNeg)) < 40) (t := 23) (f := 65) (lv := [(0, .ref 83), (1, .int v1)]) (st := []) (S' := (am_sh, hx, w.1, w.2)) rfl hp (fun hc3 hp => ?_) (fun hc3 hp => ?_)
      · refine am_Rn.run am_h180 6 (F' := (33, [(0, .ref 83), (1, .int v1)], [.int ((w.1 83 18) - 1), .ref 88])) (S' := (am_sh, hx, w.1, w.2)) rfl ?_
        obtain ⟨hn4, hp⟩ := am_ix_e hp
        refine am_Rn.stepG am_h180 (c := ((w.1 83 18) - 1) < 0 ∨ 160 ≤ ((w.1 83 18) - 1).toNatClampNeg) (F' := (34, [(0, .ref 83), (1, .int v1)], [.int (w.1 88 (((w.1 83 18) - 1).toNatClampNeg))])) (S' := (am_sh, hx, w.1, w.2)) rfl hn4 ?_
        refine am_Rn.run am_h180 1 (F' := (35, [(0, .ref 83), (1, .int v1)], [.int v1, .int (w.1 88 (((w.1 83 18) - 1).toNatClampNeg))])) (S' := (am_sh, hx, w.1, w.2)) rfl ?_
        refine am_Rn.ite am_h180 (c := (w.1 88 (((w.1 83 18) - 1).toNatClampNeg)) < v1) (t := 65) (f := 38) (lv := [(0, .ref 83), (1, .int v1)]) (st := []) (S' := (am_sh, hx, w.1, w.2)) rfl hp (fun hc5 hp => ?_) (fun hc5 hp => ?_)
        · cases hp
          exact am_Rn.ret am_h180 rfl
        · obtain ⟨w6, h_w6, hp⟩ := am_b_e hp
          refine am_Rn.run am_h180 11 (F' := (57, [(0, .ref 83), (1, .int v1)], [.int (w6.1 83 18), .ref 88, .ref 83])) (S' := (am_sh, hx, w6.1, w6.2)) (by subst h_w6; rfl) ?_
          obtain ⟨hn7, hp⟩ := am_ix_e hp
          refine am_Rn.stepG am_h180 (c := (w6.1 83 18) < 0 ∨ 160 ≤ (w6.1 83 18).toNatClampNeg) (F' := (58, [(0, .ref 83), (1, .int v1)], [.int (w6.1 88 ((w6.1 83 18).toNatClampNeg)), .ref 83])) (S' := (am_sh, hx, w6.1, w6.2)) rfl hn7 ?_
          refine am_Rn.run am_h180 1 (F' := (59, [(0, .ref 83), (1, .int v1)], [.int 0, .int (w6.1 88 ((w6.1 83 18).toNatClampNeg)), .ref 83])) (S' := (am_sh, hx, w6.1, w6.2)) rfl ?_
          obtain ⟨r8, h_r8, hp⟩ := am_bind hp
          refine am_Rn.call am_h180 (mj := 177) (As := [.ref 83, .int (w6.1 88 ((w6.1 83 18).toNatClampNeg)), .int 0]) (F' := (62, [(0, .ref 83), (1, .int v1)], [])) (M' := am_m177) (r := none) (S1 := (am_sh, hx, r8.1, r8.2)) rfl am_h177 rfl (ezM_emit (by omega) (w6.1 88 ((w6.1 83 18).toNatClampNeg)) 0 w6 _ h_r8) ?_
          refine am_Rn.run am_h180 1 (F' := (0, [(0, .ref 83), (1, .int v1)], [])) (S' := (am_sh, hx, r8.1, r8.2)) rfl ?_
          exact ezM_settle_L0 hd R n v1 r8 hp
      · cases hp
        exact am_Rn.ret am_h180 rfl
    · cases hp
      exact am_Rn.ret am_h180 rfl
def zM_settle (v1 : Int32) (w : zHM) : Option (zHM) := zM_settle_L0 am_N v1 w
set_option maxRecDepth 20000 in
theorem ezM_settle {d : Nat} (hd : 1 ≤ d) (v1 : Int32) (w : zHM) (R : zHM) (hp : zM_settle v1 w = some R) : am_Ev 83 Xs am_P d 180 [.ref 83, .int v1] (am_sh, hx, w.1, w.2) (none, (am_sh, hx, R.1, R.2)) := by
  obtain ⟨d, rfl⟩ : ∃ k, d = k + 1 := ⟨d - 1, by omega⟩
  unfold zM_settle at hp
  show am_Rn 83 Xs am_P _ 180 (0, [(0, .ref 83), (1, .int v1)], []) _ _
  exact ezM_settle_L0 hd R am_N v1 w hp
/-- SixHandsModel.behindOne()I [83] -/
def zM_behindOne_J115 (w : zHM) : Option (Int32 × zHM) := (zM_nextToken w).bind fun r7 => some ((0, r7))
set_option maxRecDepth 20000 in
theorem ezM_behindOne_J115 {d : Nat} (hd : 3 ≤ d) (R : Int32 × zHM) (w : zHM) (hp : zM_behindOne_J115 w = some R) : am_Rn 83 Xs am_P d 186 (115, [(0, .ref 83)], []) (am_sh, hx, w.1, w.2) (some (.int R.1), (am_sh, hx, R.2.1, R.2.2)) := by
  obtain ⟨d, rfl⟩ : ∃ k, d = k + 1 := ⟨d - 1, by omega⟩
  unfold zM_behindOne_J115 at hp
  refine am_Rn.run am_h186 1 (F' := (116, [(0, .ref 83)], [.ref 83])) (S' := (am_sh, hx, w.1, w.2)) rfl ?_
  obtain ⟨r7, h_r7, hp⟩ := am_bind hp
  refine am_Rn.call am_h186 (mj := 171) (As := [.ref 83]) (F' := (119, [(0, .ref 83)], [])) (M' := am_m171) (r := none) (S1 := (am_sh, hx, r7.1, r7.2)) rfl am_h171 rfl (ezM_nextToken (by omega) w _ h_r7) ?_
  refine am_Rn.run am_h186 1 (F' := (120, [(0, .ref 83)], [.int 0])) (S' := (am_sh, hx, r7.1, r7.2)) rfl ?_
  cases hp
  exact am_Rn.ret am_h186 rfl
def zM_behindOne_J34 (s1 : Int32) (w : zHM) : Option (Int32 × zHM) := (zM_push s1 w).bind fun r5 => am_b ((va_up r5.1 83 (upd (r5.1 83) 20 0), r5.2)) fun w6 => zM_behindOne_J115 w6
set_option maxRecDepth 20000 in
theorem ezM_behindOne_J34 {d : Nat} (hd : 3 ≤ d) (R : Int32 × zHM) (s1 : Int32) (w : zHM) (hp : zM_behindOne_J34 s1 w = some R) : am_Rn 83 Xs am_P d 186 (34, [(0, .ref 83)], [.int s1, .ref 83]) (am_sh, hx, w.1, w.2) (some (.int R.1), (am_sh, hx, R.2.1, R.2.2)) := by
  obtain ⟨d, rfl⟩ : ∃ k, d = k + 1 := ⟨d - 1, by omega⟩
  unfold zM_behindOne_J34 at hp
  obtain ⟨r5, h_r5, hp⟩ := am_bind hp
  refine am_Rn.call am_h186 (mj := 178) (As := [.ref 83, .int s1]) (F' := (37, [(0, .ref 83)], [])) (M' := am_m178) (r := none) (S1 := (am_sh, hx, r5.1, r5.2)) rfl am_h178 rfl (ezM_push (by omega) s1 w _ h_r5) ?_
  obtain ⟨w6, h_w6, hp⟩ := am_b_e hp
  refine am_Rn.run am_h186 4 (F' := (115, [(0, .ref 83)], [])) (S' := (am_sh, hx, w6.1, w6.2)) (by subst h_w6; rfl) ?_
  exact ezM_behindOne_J115 hd R w6 hp
def zM_behindOne_J17 (v1 : Int32) (w : zHM) : Option (Int32 × zHM) := (zM_settle 3 w).bind fun r3 => if v1 = 43 then (zM_behindOne_J34 3 r3) else (zM_behindOne_J34 4 r3)
set_option maxRecDepth 20000 in
theorem ezM_behindOne_J17 {d : Nat} (hd : 3 ≤ d) (R : Int32 × zHM) (v1 : Int32) (w : zHM) (hp : zM_behindOne_J17 v1 w = some R) : am_Rn 83 Xs am_P d 186 (17, [(0, .ref 83), (1, .int v1)], []) (am_sh, hx, w.1, w.2) (some (.int R.1), (am_sh, hx, R.2.1, R.2.2)) := by
  obtain ⟨d, rfl⟩ : ∃ k, d = k + 1 := ⟨d - 1, by omega⟩
  unfold zM_behindOne_J17 at hp
  refine am_Rn.run am_h186 2 (F' := (19, [(0, .ref 83), (1, .int v1)], [.int 3, .ref 83])) (S' := (am_sh, hx, w.1, w.2)) rfl ?_
  obtain ⟨r3, h_r3, hp⟩ := am_bind hp
  refine am_Rn.call am_h186 (mj := 180) (As := [.ref 83, .int 3]) (F' := (22, [(0, .ref 83), (1, .int v1)], [])) (M' := am_m180) (r := none) (S1 := (am_sh, hx, r3.1, r3.2)) rfl am_h180 rfl (ezM_settle (by omega) 3 w _ h_r3) ?_
  refine am_Rn.run am_h186 3 (F' := (26, [(0, .ref 83), (1, .int v1)], [.int 43, .int v1, .ref 83])) (S' := (am_sh, hx, r3.1, r3.2)) rfl ?_
  refine am_Rn.ite am_h186 (c := v1 = 43) (t := 29) (f := 33) (lv := [(0, .ref 83), (1, .int v1)]) (st := [.ref 83]) (S' := (am_sh, hx, r3.1, r3.2)) rfl hp (fun hc4 hp => ?_) (fun hc4 hp => ?_)
  · refine am_Rn.run am_h186 2 (F' := (34, [(0, .ref 83), (1, .int v1)], [.int 3, .ref 83])) (S' := (am_sh, hx, r3.1, r3.2)) rfl ?_
    refine am_Rn.sub [0] rfl rfl ?_
    exact ezM_behindOne_J34 hd R 3 r3 hp
  · refine am_Rn.run am_h186 1 (F' := (34, [(0, .ref 83), (1, .int v1)], [.int 4, .ref 83])) (S' := (am_sh, hx, r3.1, r3.2)) rfl ?_
    refine am_Rn.sub [0] rfl rfl ?_
    exact ezM_behindOne_J34 hd R 4 r3 hp
def zM_behindOne_J75 (s1 : Int32) (w : zHM) : Option (Int32 × zHM) := (zM_push s1 w).bind fun r12 => am_b ((va_up r12.1 83 (upd (r12.1 83) 20 0), r12.2)) fun w13 => zM_behindOne_J115 w13
set_option maxRecDepth 20000 in
theorem ezM_behindOne_J75 {d : Nat} (hd : 3 ≤ d) (R : Int32 × zHM) (s1 : Int32) (w : zHM) (hp : zM_behindOne_J75 s1 w = some R) : am_Rn 83 Xs am_P d 186 (75, [(0, .ref 83)], [.int s1, .ref 83]) (am_sh, hx, w.1, w.2) (some (.int R.1), (am_sh, hx, R.2.1, R.2.2)) := by
  obtain ⟨d, rfl⟩ : ∃ k, d = k + 1 := ⟨d - 1, by omega⟩
  unfold zM_behindOne_J75 at hp
  obtain ⟨r12, h_r12, hp⟩ := am_bind hp
  refine am_Rn.call am_h186 (mj := 178) (As := [.ref 83, .int s1]) (F' := (78, [(0, .ref 83)], [])) (M' := am_m178) (r := none) (S1 := (am_sh, hx, r12.1, r12.2)) rfl am_h178 rfl (ezM_push (by omega) s1 w _ h_r12) ?_
  obtain ⟨w13, h_w13, hp⟩ := am_b_e hp
  refine am_Rn.run am_h186 4 (F' := (115, [(0, .ref 83)], [])) (S' := (am_sh, hx, w13.1, w13.2)) (by subst h_w13; rfl) ?_
  exact ezM_behindOne_J115 hd R w13 hp
def zM_behindOne_J57 (v1 : Int32) (w : zHM) : Option (Int32 × zHM) := (zM_settle 5 w).bind fun r10 => if v1 = 42 then (zM_behindOne_J75 5 r10) else (zM_behindOne_J75 6 r10)
set_option maxRecDepth 20000 in
theorem ezM_behindOne_J57 {d : Nat} (hd : 3 ≤ d) (R : Int32 × zHM) (v1 : Int32) (w : zHM) (hp : zM_behindOne_J57 v1 w = some R) : am_Rn 83 Xs am_P d 186 (57, [(0, .ref 83), (1, .int v1)], []) (am_sh, hx, w.1, w.2) (some (.int R.1), (am_sh, hx, R.2.1, R.2.2)) := by
  obtain ⟨d, rfl⟩ : ∃ k, d = k + 1 := ⟨d - 1, by omega⟩
  unfold zM_behindOne_J57 at hp
  refine am_Rn.run am_h186 2 (F' := (59, [(0, .ref 83), (1, .int v1)], [.int 5, .ref 83])) (S' := (am_sh, hx, w.1, w.2)) rfl ?_
  obtain ⟨r10, h_r10, hp⟩ := am_bind hp
  refine am_Rn.call am_h186 (mj := 180) (As := [.ref 83, .int 5]) (F' := (62, [(0, .ref 83), (1, .int v1)], [])) (M' := am_m180) (r := none) (S1 := (am_sh, hx, r10.1, r10.2)) rfl am_h180 rfl (ezM_settle (by omega) 5 w _ h_r10) ?_
  refine am_Rn.run am_h186 3 (F' := (66, [(0, .ref 83), (1, .int v1)], [.int 42, .int v1, .ref 83])) (S' := (am_sh, hx, r10.1, r10.2)) rfl ?_
  refine am_Rn.ite am_h186 (c := v1 = 42) (t := 69) (f := 73) (lv := [(0, .ref 83), (1, .int v1)]) (st := [.ref 83]) (S' := (am_sh, hx, r10.1, r10.2)) rfl hp (fun hc11 hp => ?_) (fun hc11 hp => ?_)
  · refine am_Rn.run am_h186 2 (F' := (75, [(0, .ref 83), (1, .int v1)], [.int 5, .ref 83])) (S' := (am_sh, hx, r10.1, r10.2)) rfl ?_
    refine am_Rn.sub [0] rfl rfl ?_
    exact ezM_behindOne_J75 hd R 5 r10 hp
  · refine am_Rn.run am_h186 1 (F' := (75, [(0, .ref 83), (1, .int v1)], [.int 6, .ref 83])) (S' := (am_sh, hx, r10.1, r10.2)) rfl ?_
    refine am_Rn.sub [0] rfl rfl ?_
    exact ezM_behindOne_J75 hd R 6 r10 hp
def zM_behindOne (w : zHM) : Option (Int32 × zHM) := am_b (w.1 83 10) fun x1 => if x1 = 43 then (zM_behindOne_J17 x1 w) else (if x1 = 45 then (zM_behindOne_J17 x1 w) else (if x1 = 42 then (zM_behindOne_J57 x1 w) else (if x1 = 47 then (zM_behindOne_J57 x1 w) else ((zM_settle 3 w).bind fun r15 => am_b ((va_up r15.1 83 (upd (r15.1 83) 18 ((r15.1 83 18) - 1)), r15.2)) fun w16 => am_b ((va_up w16.1 83 (upd (w16.1 83) 19 ((w16.1 83 19) - 1)), w16.2)) fun w17 => (zM_whole w17).bind fun r18 => zM_behindOne_J115 r18))))
set_option maxRecDepth 20000 in
theorem ezM_behindOne {d : Nat} (hd : 3 ≤ d) (w : zHM) (R : Int32 × zHM) (hp : zM_behindOne w = some R) : am_Ev 83 Xs am_P d 186 [.ref 83] (am_sh, hx, w.1, w.2) (some (.int R.1), (am_sh, hx, R.2.1, R.2.2)) := by
  obtain ⟨d, rfl⟩ : ∃ k, d = k + 1 := ⟨d - 1, by omega⟩
  unfold zM_behindOne at hp
  show am_Rn 83 Xs am_P _ 186 (0, [(0, .ref 83)], []) _ _
  obtain ⟨x1, h_x1, hp⟩ := am_b_e hp
  refine am_Rn.run am_h186 5 (F' := (8, [(1, .int x1), (0, .ref 83)], [.int 43, .int x1])) (S' := (am_sh, hx, w.1, w.2)) (by subst h_x1; rfl) ?_
  refine am_Rn.ite am_h186 (c := x1 = 43) (t := 17) (f := 11) (lv := [(1, .int x1), (0, .ref 83)]) (st := []) (S' := (am_sh, hx, w.1, w.2)) rfl hp (fun hc2 hp => ?_) (fun hc2 hp => ?_)
  · refine am_Rn.sub [1, 0] rfl rfl ?_
    exact ezM_behindOne_J17 hd R x1 w hp
  · refine am_Rn.run am_h186 2 (F' := (14, [(1, .int x1), (0, .ref 83)], [.int 45, .int x1])) (S' := (am_sh, hx, w.1, w.2)) rfl ?_
    refine am_Rn.ite am_h186 (c := x1 = 45) (t := 17) (f := 45) (lv := [(1, .int x1), (0, .ref 83)]) (st := []) (S' := (am_sh, hx, w.1, w.2)) rfl hp (fun hc8 hp => ?_) (fun hc8 hp => ?_)
    · refine am_Rn.sub [1, 0] rfl rfl ?_
      exact ezM_behindOne_J17 hd R x1 w hp
    · refine am_Rn.run am_h186 2 (F' := (48, [(1, .int x1), (0, .ref 83)], [.int 42, .int x1])) (S' := (am_sh, hx, w.1, w.2)) rfl ?_
      refine am_Rn.ite am_h186 (c := x1 = 42) (t := 57) (f := 51) (lv := [(1, .int x1), (0, .ref 83)]) (st := []) (S' := (am_sh, hx, w.1, w.2)) rfl hp (fun hc9 hp => ?_) (fun hc9 hp => ?_)
      · refine am_Rn.sub [1, 0] rfl rfl ?_
        exact ezM_behindOne_J57 hd R x1 w hp
      · refine am_Rn.run am_h186 2 (F' := (54, [(1, .int x1), (0, .ref 83)], [.int 47, .int x1])) (S' := (am_sh, hx, w.1, w.2)) rfl ?_
        refine am_Rn.ite am_h186 (c := x1 = 47) (t := 57) (f := 86) (lv := [(1, .int x1), (0, .ref 83)]) (st := []) (S' := (am_sh, hx, w.1, w.2)) rfl hp (fun hc14 hp => ?_) (fun hc14 hp => ?_)
        · refine am_Rn.sub [1, 0] rfl rfl ?_
          exact ezM_behindOne_J57 hd R x1 w hp
        · refine am_Rn.run am_h186 2 (F' := (88, [(1, .int x1), (0, .ref 83)], [.int 3, .ref 83])) (S' := (am_sh, hx, w.1, w.2)) rfl ?_
          obtain ⟨r15, h_r15, hp⟩ := am_bind hp
          refine am_Rn.call am_h186 (mj := 180) (As := [.ref 83, .int 3]) (F' := (91, [(1, .int x1), (0, .ref 83)], [])) (M' := am_m180) (r := none) (S1 := (am_sh, hx, r15.1, r15.2)) rfl am_h180 rfl (ezM_settle (by omega) 3 w _ h_r15) ?_
          obtain ⟨w16, h_w16, hp⟩ := am_b_e hp
          obtain ⟨w17, h_w17, hp⟩ := am_b_e hp
          refine am_Rn.run am_h186 13 (F' := (112, [(1, .int x1), (0, .ref 83)], [.ref 83])) (S' := (am_sh, hx, w17.1, w17.2)) (by subst h_w16; subst h_w17; rfl) ?_
          obtain ⟨r18, h_r18, hp⟩ := am_bind hp
          refine am_Rn.call am_h186 (mj := 179) (As := [.ref 83]) (F' := (115, [(1, .int x1), (0, .ref 83)], [])) (M' := am_m179) (r := none) (S1 := (am_sh, hx, r18.1, r18.2)) rfl am_h179 rfl (ezM_whole (by omega) w17 _ h_r18) ?_
          refine am_Rn.sub [1] rfl rfl ?_
          exact ezM_behindOne_J115 hd R r18 hp
/-- SixHandsModel.hasParen()Z [83] -/
def zM_hasParen_L2 : Nat → Int32 → zHM → Option (Int32)
  | 0, _, _ => none
  | n + 1, v1, w => if v1 < (w.1 83 18) then (am_ix 160 v1 (if (w.1 88 (v1.toNatClampNeg)) = 40 then (some 1) else (zM_hasParen_L2 n (v1 + 1) w))) else (some 0)
set_option maxRecDepth 20000 in
theorem ezM_hasParen_L2 {d : Nat} (hd : 0 ≤ d) (R : Int32) : ∀ (n : Nat) (v1 : Int32) (w : zHM), zM_hasParen_L2 n v1 w = some R → am_Rn 83 Xs am_P d 184 (2, [(0, .ref 83), (1, .int v1)], []) (am_sh, hx, w.1, w.2) (some (.int R), (am_sh, hx, w.1, w.2))
  | 0, _, _, hp => by cases hp
  | n + 1, v1, w, hp => by
    unfold zM_hasParen_L2 at hp
    refine am_Rn.run am_h184 3 (F' := (7, [(0, .ref 83), (1, .int v1)], [.int (w.1 83 18), .int v1])) (S' := (am_sh, hx, w.1, w.2)) rfl ?_
    refine am_Rn.ite am_h184 (c := v1 < (w.1 83 18)) (t := 10) (f := 29) (lv := [(0, .ref 83), (1, .int v1)]) (st := []) (S' := (am_sh, hx, w.1, w.2)) rfl hp (fun hc1 hp => ?_) (fun hc1 hp => ?_)
    · refine am_Rn.run am_h184 3 (F' := (15, [(0, .ref 83), (1, .int v1)], [.int v1, .ref 88])) (S' := (am_sh, hx, w.1, w.2)) rfl ?_
      obtain ⟨hn2, hp⟩ := am_ix_e hp
      refine am_Rn.stepG am_h184 (c := v1 < 0 ∨ 160 ≤ v1.toNatClampNeg) (F' := (16, [(0, .ref 83), (1, .int v1)], [.int (w.1 88 (v1.toNatClampNeg))])) (S' := (am_sh, hx, w.1, w.2)) rfl hn2 ?_
      refine am_Rn.run am_h184 1 (F' := (18, [(0, .ref 83), (1, .int v1)], [.int 40, .int (w.1 88 (v1.toNatClampNeg))])) (S' := (am_sh, hx, w.1, w.2)) rfl ?_
      refine am_Rn.ite am_h184 (c := (w.1 88 (v1.toNatClampNeg)) = 40) (t := 21) (f := 23) (lv := [(0, .ref 83), (1, .int v1)]) (st := []) (S' := (am_sh, hx, w.1, w.2)) rfl hp (fun hc3 hp => ?_) (fun hc3 hp => ?_)
      · refine am_Rn.run am_h184 1 (F' := (22, [(0, .ref 83), (1, .int v1)], [.int 1])) (S' := (am_sh, hx, w.1, w.2)) rfl ?_
        cases hp
        exact am_Rn.ret am_h184 rfl
      · refine am_Rn.run am_h184 2 (F' := (2, [(1, .int (v1 + 1)), (0, .ref 83)], [])) (S' := (am_sh, hx, w.1, w.2)) rfl ?_
        refine am_Rn.sub [1, 0] rfl rfl ?_
        exact ezM_hasParen_L2 hd R n (v1 + 1) w hp
    · refine am_Rn.run am_h184 1 (F' := (30, [(0, .ref 83), (1, .int v1)], [.int 0])) (S' := (am_sh, hx, w.1, w.2)) rfl ?_
      cases hp
      exact am_Rn.ret am_h184 rfl
def zM_hasParen (w : zHM) : Option (Int32) := zM_hasParen_L2 am_N 0 w
set_option maxRecDepth 20000 in
theorem ezM_hasParen {d : Nat} (hd : 0 ≤ d) (w : zHM) (R : Int32) (hp : zM_hasParen w = some R) : am_Ev 83 Xs am_P d 184 [.ref 83] (am_sh, hx, w.1, w.2) (some (.int R), (am_sh, hx, w.1, w.2)) := by
  unfold zM_hasParen at hp
  show am_Rn 83 Xs am_P _ 184 (0, [(0, .ref 83)], []) _ _
  refine am_Rn.run am_h184 2 (F' := (2, [(1, .int 0), (0, .ref 83)], [])) (S' := (am_sh, hx, w.1, w.2)) rfl ?_
  refine am_Rn.sub [1, 0] rfl rfl ?_
  exact ezM_hasParen_L2 hd R am_N 0 w hp
/-- SixHandsModel.goesOn()Z [83] -/
def zM_goesOn (w : zHM) : Option (Int32) := if (w.1 83 10) = 43 then (some 1) else (if (w.1 83 10) = 45 then (some 1) else (if (w.1 83 10) = 42 then (some 1) else (if (w.1 83 10) = 47 then (some 1) else (if (w.1 83 10) = 41 then ((zM_hasParen w).bind fun r6 => if r6 = 0 then (some 0) else (some 1)) else (some 0)))))
set_option maxRecDepth 20000 in
theorem ezM_goesOn {d : Nat} (hd : 1 ≤ d) (w : zHM) (R : Int32) (hp : zM_goesOn w = some R) : am_Ev 83 Xs am_P d 185 [.ref 83] (am_sh, hx, w.1, w.2) (some (.int R), (am_sh, hx, w.1, w.2)) := by
  obtain ⟨d, rfl⟩ : ∃ k, d = k + 1 := ⟨d - 1, by omega⟩
  unfold zM_goesOn at hp
  show am_Rn 83 Xs am_P _ 185 (0, [(0, .ref 83)], []) _ _
  refine am_Rn.run am_h185 3 (F' := (6, [(0, .ref 83)], [.int 43, .int (w.1 83 10)])) (S' := (am_sh, hx, w.1, w.2)) rfl ?_
  refine am_Rn.ite am_h185 (c := (w.1 83 10) = 43) (t := 52) (f := 9) (lv := [(0, .ref 83)]) (st := []) (S' := (am_sh, hx, w.1, w.2)) rfl hp (fun hc1 hp => ?_) (fun hc1 hp => ?_)
  · refine am_Rn.run am_h185 2 (F' := (57, [(0, .ref 83)], [.int 1])) (S' := (am_sh, hx, w.1, w.2)) rfl ?_
    cases hp
    exact am_Rn.ret am_h185 rfl
  · refine am_Rn.run am_h185 3 (F' := (15, [(0, .ref 83)], [.int 45, .int (w.1 83 10)])) (S' := (am_sh, hx, w.1, w.2)) rfl ?_
    refine am_Rn.ite am_h185 (c := (w.1 83 10) = 45) (t := 52) (f := 18) (lv := [(0, .ref 83)]) (st := []) (S' := (am_sh, hx, w.1, w.2)) rfl hp (fun hc2 hp => ?_) (fun hc2 hp => ?_)
    · refine am_Rn.run am_h185 2 (F' := (57, [(0, .ref 83)], [.int 1])) (S' := (am_sh, hx, w.1, w.2)) rfl ?_
      cases hp
      exact am_Rn.ret am_h185 rfl
    · refine am_Rn.run am_h185 3 (F' := (24, [(0, .ref 83)], [.int 42, .int (w.1 83 10)])) (S' := (am_sh, hx, w.1, w.2)) rfl ?_
      refine am_Rn.ite am_h185 (c := (w.1 83 10) = 42) (t := 52) (f := 27) (lv := [(0, .ref 83)]) (st := []) (S' := (am_sh, hx, w.1, w.2)) rfl hp (fun hc3 hp => ?_) (fun hc3 hp => ?_)
      · refine am_Rn.run am_h185 2 (F' := (57, [(0, .ref 83)], [.int 1])) (S' := (am_sh, hx, w.1, w.2)) rfl ?_
        cases hp
        exact am_Rn.ret am_h185 rfl
      · refine am_Rn.run am_h185 3 (F' := (33, [(0, .ref 83)], [.int 47, .int (w.1 83 10)])) (S' := (am_sh, hx, w.1, w.2)) rfl ?_
        refine am_Rn.ite am_h185 (c := (w.1 83 10) = 47) (t := 52) (f := 36) (lv := [(0, .ref 83)]) (st := []) (S' := (am_sh, hx, w.1, w.2)) rfl hp (fun hc4 hp => ?_) (fun hc4 hp => ?_)
        · refine am_Rn.run am_h185 2 (F' := (57, [(0, .ref 83)], [.int 1])) (S' := (am_sh, hx, w.1, w.2)) rfl ?_
          cases hp
          exact am_Rn.ret am_h185 rfl
        · refine am_Rn.run am_h185 3 (F' := (42, [(0, .ref 83)], [.int 41, .int (w.1 83 10)])) (S' := (am_sh, hx, w.1, w.2)) rfl ?_
          refine am_Rn.ite am_h185 (c := (w.1 83 10) = 41) (t := 45) (f := 56) (lv := [(0, .ref 83)]) (st := []) (S' := (am_sh, hx, w.1, w.2)) rfl hp (fun hc5 hp => ?_) (fun hc5 hp => ?_)
          · refine am_Rn.run am_h185 1 (F' := (46, [(0, .ref 83)], [.ref 83])) (S' := (am_sh, hx, w.1, w.2)) rfl ?_
            obtain ⟨r6, h_r6, hp⟩ := am_bind hp
            refine am_Rn.call am_h185 (mj := 184) (As := [.ref 83]) (F' := (49, [(0, .ref 83)], [])) (M' := am_m184) (r := some (.int r6)) (S1 := (am_sh, hx, w.1, w.2)) rfl am_h184 rfl (ezM_hasParen (by omega) w _ h_r6) ?_
            refine am_Rn.ite am_h185 (c := r6 = 0) (t := 56) (f := 52) (lv := [(0, .ref 83)]) (st := []) (S' := (am_sh, hx, w.1, w.2)) rfl hp (fun hc7 hp => ?_) (fun hc7 hp => ?_)
            · refine am_Rn.run am_h185 1 (F' := (57, [(0, .ref 83)], [.int 0])) (S' := (am_sh, hx, w.1, w.2)) rfl ?_
              cases hp
              exact am_Rn.ret am_h185 rfl
            · refine am_Rn.run am_h185 2 (F' := (57, [(0, .ref 83)], [.int 1])) (S' := (am_sh, hx, w.1, w.2)) rfl ?_
              cases hp
              exact am_Rn.ret am_h185 rfl
          · refine am_Rn.run am_h185 1 (F' := (57, [(0, .ref 83)], [.int 0])) (S' := (am_sh, hx, w.1, w.2)) rfl ?_
            cases hp
            exact am_Rn.ret am_h185 rfl
/-- SixHandsModel.summed()I [83] -/
def zM_summed_J42 (k10 : zHM → Option (Int32 × zHM)) (s0 : Int32) (w : zHM) : Option (Int32 × zHM) := if s0 = 0 then (k10 w) else (some ((s0, w)))
set_option maxRecDepth 20000 in
theorem ezM_summed_J42 {d : Nat} (hd : 5 ≤ d) (R : Int32 × zHM) (k10 : zHM → Option (Int32 × zHM)) (hk10 : ∀ (w : zHM), k10 w = some R → am_Rn 83 Xs am_P d 187 (10, [(0, .ref 83)], []) (am_sh, hx, w.1, w.2) (some (.int R.1), (am_sh, hx, R.2.1, R.2.2))) (s0 : Int32) (w : zHM) (hp : zM_summed_J42 k10 s0 w = some R) : am_Rn 83 Xs am_P d 187 (42, [(0, .ref 83)], [.int s0]) (am_sh, hx, w.1, w.2) (some (.int R.1), (am_sh, hx, R.2.1, R.2.2)) := by
  obtain ⟨d, rfl⟩ : ∃ k, d = k + 1 := ⟨d - 1, by omega⟩
  unfold zM_summed_J42 at hp
  refine am_Rn.run am_h187 2 (F' := (44, [(1, .int s0), (0, .ref 83)], [.int s0])) (S' := (am_sh, hx, w.1, w.2)) rfl ?_
  refine am_Rn.ite am_h187 (c := s0 = 0) (t := 49) (f := 47) (lv := [(1, .int s0), (0, .ref 83)]) (st := []) (S' := (am_sh, hx, w.1, w.2)) rfl hp (fun hc6 hp => ?_) (fun hc6 hp => ?_)
  · refine am_Rn.run am_h187 1 (F' := (10, [(1, .int s0), (0, .ref 83)], [])) (S' := (am_sh, hx, w.1, w.2)) rfl ?_
    refine am_Rn.sub [1] rfl rfl ?_
    exact hk10 w hp
  · refine am_Rn.run am_h187 1 (F' := (48, [(1, .int s0), (0, .ref 83)], [.int s0])) (S' := (am_sh, hx, w.1, w.2)) rfl ?_
    cases hp
    exact am_Rn.ret am_h187 rfl
def zM_summed_J24 (k10 : zHM → Option (Int32 × zHM)) (w : zHM) : Option (Int32 × zHM) := if (w.1 83 20) = 0 then ((zM_beginOne w).bind fun r5 => zM_summed_J42 k10 r5.1 r5.2) else ((zM_behindOne w).bind fun r7 => zM_summed_J42 k10 r7.1 r7.2)
set_option maxRecDepth 20000 in
theorem ezM_summed_J24 {d : Nat} (hd : 5 ≤ d) (R : Int32 × zHM) (k10 : zHM → Option (Int32 × zHM)) (hk10 : ∀ (w : zHM), k10 w = some R → am_Rn 83 Xs am_P d 187 (10, [(0, .ref 83)], []) (am_sh, hx, w.1, w.2) (some (.int R.1), (am_sh, hx, R.2.1, R.2.2))) (w : zHM) (hp : zM_summed_J24 k10 w = some R) : am_Rn 83 Xs am_P d 187 (24, [(0, .ref 83)], []) (am_sh, hx, w.1, w.2) (some (.int R.1), (am_sh, hx, R.2.1, R.2.2)) := by
  obtain ⟨d, rfl⟩ : ∃ k, d = k + 1 := ⟨d - 1, by omega⟩
  unfold zM_summed_J24 at hp
  refine am_Rn.run am_h187 2 (F' := (28, [(0, .ref 83)], [.int (w.1 83 20)])) (S' := (am_sh, hx, w.1, w.2)) rfl ?_
  refine am_Rn.ite am_h187 (c := (w.1 83 20) = 0) (t := 38) (f := 31) (lv := [(0, .ref 83)]) (st := []) (S' := (am_sh, hx, w.1, w.2)) rfl hp (fun hc4 hp => ?_) (fun hc4 hp => ?_)
  · refine am_Rn.run am_h187 1 (F' := (39, [(0, .ref 83)], [.ref 83])) (S' := (am_sh, hx, w.1, w.2)) rfl ?_
    obtain ⟨r5, h_r5, hp⟩ := am_bind hp
    refine am_Rn.call am_h187 (mj := 183) (As := [.ref 83]) (F' := (42, [(0, .ref 83)], [])) (M' := am_m183) (r := some (.int r5.1)) (S1 := (am_sh, hx, r5.2.1, r5.2.2)) rfl am_h183 rfl (ezM_beginOne (by omega) w _ h_r5) ?_
    exact ezM_summed_J42 hd R k10 hk10 r5.1 r5.2 hp
  · refine am_Rn.run am_h187 1 (F' := (32, [(0, .ref 83)], [.ref 83])) (S' := (am_sh, hx, w.1, w.2)) rfl ?_
    obtain ⟨r7, h_r7, hp⟩ := am_bind hp
    refine am_Rn.call am_h187 (mj := 186) (As := [.ref 83]) (F' := (35, [(0, .ref 83)], [])) (M' := am_m186) (r := some (.int r7.1)) (S1 := (am_sh, hx, r7.2.1, r7.2.2)) rfl am_h186 rfl (ezM_behindOne (by omega) w _ h_r7) ?_
    refine am_Rn.run am_h187 1 (F' := (42, [(0, .ref 83)], [.int r7.1])) (S' := (am_sh, hx, r7.2.1, r7.2.2)) rfl ?_
    exact ezM_summed_J42 hd R k10 hk10 r7.1 r7.2 hp
def zM_summed_L10 : Nat → zHM → Option (Int32 × zHM)
  | 0, _ => none
  | n + 1, w => if (w.1 83 20) = 0 then (zM_summed_J24 (fun w => zM_summed_L10 n w) w) else ((zM_goesOn w).bind fun r8 => if r8 = 0 then ((zM_settle 3 w).bind fun r10 => if 0 < (r10.1 83 18) then (some ((1, r10))) else (some ((0, r10)))) else (zM_summed_J24 (fun w => zM_summed_L10 n w) w))
set_option maxRecDepth 20000 in
theorem ezM_summed_L10 {d : Nat} (hd : 5 ≤ d) (R : Int32 × zHM) : ∀ (n : Nat) (w : zHM), zM_summed_L10 n w = some R → am_Rn 83 Xs am_P d 187 (10, [(0, .ref 83)], []) (am_sh, hx, w.1, w.2) (some (.int R.1), (am_sh, hx, R.2.1, R.2.2))
  | 0, _, hp => by cases hp
  | n + 1, w, hp => by
    obtain ⟨d, rfl⟩ : ∃ k, d = k + 1 := ⟨d - 1, by omega⟩
    unfold zM_summed_L10 at hp
    refine am_Rn.run am_h187 2 (F' := (14, [(0, .ref 83)], [.int (w.1 83 20)])) (S' := (am_sh, hx, w.1, w.2)) rfl ?_
    refine am_Rn.ite am_h187 (c := (w.1 83 20) = 0) (t := 24) (f := 17) (lv := [(0, .ref 83)]) (st := []) (S' := (am_sh, hx, w.1, w.2)) rfl hp (fun hc3 hp => ?_) (fun hc3 hp => ?_)
    · exact ezM_summed_J24 hd R (fun w => zM_summed_L10 n w) (fun w hp => ezM_summed_L10 hd R n w hp) w hp
    · refine am_Rn.run am_h187 1 (F' := (18, [(0, .ref 83)], [.ref 83])) (S' := (am_sh, hx, w.1, w.2)) rfl ?_
      obtain ⟨r8, h_r8, hp⟩ := am_bind hp
      refine am_Rn.call am_h187 (mj := 185) (As := [.ref 83]) (F' := (21, [(0, .ref 83)], [])) (M' := am_m185) (r := some (.int r8)) (S1 := (am_sh, hx, w.1, w.2)) rfl am_h185 rfl (ezM_goesOn (by omega) w _ h_r8) ?_
      refine am_Rn.ite am_h187 (c := r8 = 0) (t := 52) (f := 24) (lv := [(0, .ref 83)]) (st := []) (S' := (am_sh, hx, w.1, w.2)) rfl hp (fun hc9 hp => ?_) (fun hc9 hp => ?_)
      · refine am_Rn.run am_h187 2 (F' := (54, [(0, .ref 83)], [.int 3, .ref 83])) (S' := (am_sh, hx, w.1, w.2)) rfl ?_
        obtain ⟨r10, h_r10, hp⟩ := am_bind hp
        refine am_Rn.call am_h187 (mj := 180) (As := [.ref 83, .int 3]) (F' := (57, [(0, .ref 83)], [])) (M' := am_m180) (r := none) (S1 := (am_sh, hx, r10.1, r10.2)) rfl am_h180 rfl (ezM_settle (by omega) 3 w _ h_r10) ?_
        refine am_Rn.run am_h187 2 (F' := (61, [(0, .ref 83)], [.int (r10.1 83 18)])) (S' := (am_sh, hx, r10.1, r10.2)) rfl ?_
        refine am_Rn.ite am_h187 (c := 0 < (r10.1 83 18)) (t := 64) (f := 68) (lv := [(0, .ref 83)]) (st := []) (S' := (am_sh, hx, r10.1, r10.2)) rfl hp (fun hc11 hp => ?_) (fun hc11 hp => ?_)
        · refine am_Rn.run am_h187 2 (F' := (69, [(0, .ref 83)], [.int 1])) (S' := (am_sh, hx, r10.1, r10.2)) rfl ?_
          cases hp
          exact am_Rn.ret am_h187 rfl
        · refine am_Rn.run am_h187 1 (F' := (69, [(0, .ref 83)], [.int 0])) (S' := (am_sh, hx, r10.1, r10.2)) rfl ?_
          cases hp
          exact am_Rn.ret am_h187 rfl
      · exact ezM_summed_J24 hd R (fun w => zM_summed_L10 n w) (fun w hp => ezM_summed_L10 hd R n w hp) w hp
def zM_summed (w : zHM) : Option (Int32 × zHM) := am_b ((va_up w.1 83 (upd (w.1 83) 18 0), w.2)) fun w1 => am_b ((va_up w1.1 83 (upd (w1.1 83) 20 0), w1.2)) fun w2 => zM_summed_L10 am_N w2
set_option maxRecDepth 20000 in
theorem ezM_summed {d : Nat} (hd : 5 ≤ d) (w : zHM) (R : Int32 × zHM) (hp : zM_summed w = some R) : am_Ev 83 Xs am_P d 187 [.ref 83] (am_sh, hx, w.1, w.2) (some (.int R.1), (am_sh, hx, R.2.1, R.2.2)) := by
  obtain ⟨d, rfl⟩ : ∃ k, d = k + 1 := ⟨d - 1, by omega⟩
  unfold zM_summed at hp
  show am_Rn 83 Xs am_P _ 187 (0, [(0, .ref 83)], []) _ _
  obtain ⟨w1, h_w1, hp⟩ := am_b_e hp
  obtain ⟨w2, h_w2, hp⟩ := am_b_e hp
  refine am_Rn.run am_h187 6 (F' := (10, [(0, .ref 83)], [])) (S' := (am_sh, hx, w2.1, w2.2)) (by subst h_w1; subst h_w2; rfl) ?_
  exact ezM_summed_L10 hd R am_N w2 hp
/-- SixHandsModel.compareOf()I [83] -/
def zM_compareOf (w : zHM) : Int32 := if (w.1 83 10) = 60 then (10) else (if (w.1 83 10) = 4 then (11) else (if (w.1 83 10) = 62 then (12) else (if (w.1 83 10) = 5 then (13) else (if (w.1 83 10) = 61 then (14) else (if (w.1 83 10) = 35 then (15) else ((-1)))))))
set_option maxRecDepth 20000 in
theorem ezM_compareOf {d : Nat} (hd : 0 ≤ d) (w : zHM) : am_Ev 83 Xs am_P d 188 [.ref 83] (am_sh, hx, w.1, w.2) (some (.int ((zM_compareOf w))), (am_sh, hx, w.1, w.2)) := by
  obtain ⟨R, hp⟩ : ∃ R, zM_compareOf w = R := ⟨_, rfl⟩
  rw [hp]
  unfold zM_compareOf at hp
  show am_Rn 83 Xs am_P _ 188 (0, [(0, .ref 83)], []) _ _
  refine am_Rn.run am_h188 3 (F' := (6, [(0, .ref 83)], [.int 60, .int (w.1 83 10)])) (S' := (am_sh, hx, w.1, w.2)) rfl ?_
  refine am_Rn.ite am_h188 (c := (w.1 83 10) = 60) (t := 9) (f := 14) (lv := [(0, .ref 83)]) (st := []) (S' := (am_sh, hx, w.1, w.2)) rfl hp (fun hc1 hp => ?_) (fun hc1 hp => ?_)
  · refine am_Rn.run am_h188 2 (F' := (83, [(0, .ref 83)], [.int 10])) (S' := (am_sh, hx, w.1, w.2)) rfl ?_
    subst hp
    exact am_Rn.ret am_h188 rfl
  · refine am_Rn.run am_h188 3 (F' := (19, [(0, .ref 83)], [.int 4, .int (w.1 83 10)])) (S' := (am_sh, hx, w.1, w.2)) rfl ?_
    refine am_Rn.ite am_h188 (c := (w.1 83 10) = 4) (t := 22) (f := 27) (lv := [(0, .ref 83)]) (st := []) (S' := (am_sh, hx, w.1, w.2)) rfl hp (fun hc2 hp => ?_) (fun hc2 hp => ?_)
    · refine am_Rn.run am_h188 2 (F' := (83, [(0, .ref 83)], [.int 11])) (S' := (am_sh, hx, w.1, w.2)) rfl ?_
      subst hp
      exact am_Rn.ret am_h188 rfl
    · refine am_Rn.run am_h188 3 (F' := (33, [(0, .ref 83)], [.int 62, .int (w.1 83 10)])) (S' := (am_sh, hx, w.1, w.2)) rfl ?_
      refine am_Rn.ite am_h188 (c := (w.1 83 10) = 62) (t := 36) (f := 41) (lv := [(0, .ref 83)]) (st := []) (S' := (am_sh, hx, w.1, w.2)) rfl hp (fun hc3 hp => ?_) (fun hc3 hp => ?_)
      · refine am_Rn.run am_h188 2 (F' := (83, [(0, .ref 83)], [.int 12])) (S' := (am_sh, hx, w.1, w.2)) rfl ?_
        subst hp
        exact am_Rn.ret am_h188 rfl
      · refine am_Rn.run am_h188 3 (F' := (46, [(0, .ref 83)], [.int 5, .int (w.1 83 10)])) (S' := (am_sh, hx, w.1, w.2)) rfl ?_
        refine am_Rn.ite am_h188 (c := (w.1 83 10) = 5) (t := 49) (f := 54) (lv := [(0, .ref 83)]) (st := []) (S' := (am_sh, hx, w.1, w.2)) rfl hp (fun hc4 hp => ?_) (fun hc4 hp => ?_)
        · refine am_Rn.run am_h188 2 (F' := (83, [(0, .ref 83)], [.int 13])) (S' := (am_sh, hx, w.1, w.2)) rfl ?_
          subst hp
          exact am_Rn.ret am_h188 rfl
        · refine am_Rn.run am_h188 3 (F' := (60, [(0, .ref 83)], [.int 61, .int (w.1 83 10)])) (S' := (am_sh, hx, w.1, w.2)) rfl ?_
          refine am_Rn.ite am_h188 (c := (w.1 83 10) = 61) (t := 63) (f := 68) (lv := [(0, .ref 83)]) (st := []) (S' := (am_sh, hx, w.1, w.2)) rfl hp (fun hc5 hp => ?_) (fun hc5 hp => ?_)
          · refine am_Rn.run am_h188 2 (F' := (83, [(0, .ref 83)], [.int 14])) (S' := (am_sh, hx, w.1, w.2)) rfl ?_
            subst hp
            exact am_Rn.ret am_h188 rfl
          · refine am_Rn.run am_h188 3 (F' := (74, [(0, .ref 83)], [.int 35, .int (w.1 83 10)])) (S' := (am_sh, hx, w.1, w.2)) rfl ?_
            refine am_Rn.ite am_h188 (c := (w.1 83 10) = 35) (t := 77) (f := 82) (lv := [(0, .ref 83)]) (st := []) (S' := (am_sh, hx, w.1, w.2)) rfl hp (fun hc6 hp => ?_) (fun hc6 hp => ?_)
            · refine am_Rn.run am_h188 2 (F' := (83, [(0, .ref 83)], [.int 15])) (S' := (am_sh, hx, w.1, w.2)) rfl ?_
              subst hp
              exact am_Rn.ret am_h188 rfl
            · refine am_Rn.run am_h188 1 (F' := (83, [(0, .ref 83)], [.int (-1)])) (S' := (am_sh, hx, w.1, w.2)) rfl ?_
              subst hp
              exact am_Rn.ret am_h188 rfl
/-- SixHandsModel.asks()I [83] -/
def zM_asks_L105 : Nat → Int32 → Int32 → zHM → Option (Int32 × zHM)
  | 0, _, _, _ => none
  | n + 1, v1, v4, w => if v4 < v1 then ((zM_emit 20 0 w).bind fun r14 => zM_asks_L105 n v1 (v4 + 1) r14) else (some ((0, w)))
set_option maxRecDepth 20000 in
theorem ezM_asks_L105 {d : Nat} (hd : 6 ≤ d) (R : Int32 × zHM) : ∀ (n : Nat) (v1 : Int32) (v4 : Int32) (w : zHM), zM_asks_L105 n v1 v4 w = some R → am_Rn 83 Xs am_P d 189 (105, [(0, .ref 83), (1, .int v1), (4, .int v4)], []) (am_sh, hx, w.1, w.2) (some (.int R.1), (am_sh, hx, R.2.1, R.2.2))
  | 0, _, _, _, hp => by cases hp
  | n + 1, v1, v4, w, hp => by
    obtain ⟨d, rfl⟩ : ∃ k, d = k + 1 := ⟨d - 1, by omega⟩
    unfold zM_asks_L105 at hp
    refine am_Rn.run am_h189 2 (F' := (108, [(0, .ref 83), (1, .int v1), (4, .int v4)], [.int v1, .int v4])) (S' := (am_sh, hx, w.1, w.2)) rfl ?_
    refine am_Rn.ite am_h189 (c := v4 < v1) (t := 111) (f := 124) (lv := [(0, .ref 83), (1, .int v1), (4, .int v4)]) (st := []) (S' := (am_sh, hx, w.1, w.2)) rfl hp (fun hc13 hp => ?_) (fun hc13 hp => ?_)
    · refine am_Rn.run am_h189 3 (F' := (115, [(0, .ref 83), (1, .int v1), (4, .int v4)], [.int 0, .int 20, .ref 83])) (S' := (am_sh, hx, w.1, w.2)) rfl ?_
      obtain ⟨r14, h_r14, hp⟩ := am_bind hp
      refine am_Rn.call am_h189 (mj := 177) (As := [.ref 83, .int 20, .int 0]) (F' := (118, [(0, .ref 83), (1, .int v1), (4, .int v4)], [])) (M' := am_m177) (r := none) (S1 := (am_sh, hx, r14.1, r14.2)) rfl am_h177 rfl (ezM_emit (by omega) 20 0 w _ h_r14) ?_
      refine am_Rn.run am_h189 2 (F' := (105, [(4, .int (v4 + 1)), (0, .ref 83), (1, .int v1)], [])) (S' := (am_sh, hx, r14.1, r14.2)) rfl ?_
      refine am_Rn.sub [1, 2, 0] rfl rfl ?_
      exact ezM_asks_L105 hd R n v1 (v4 + 1) r14 hp
    · refine am_Rn.run am_h189 1 (F' := (125, [(0, .ref 83), (1, .int v1), (4, .int v4)], [.int 0])) (S' := (am_sh, hx, w.1, w.2)) rfl ?_
      cases hp
      exact am_Rn.ret am_h189 rfl
def zM_asks_L2 : Nat → Int32 → zHM → Option (Int32 × zHM)
  | 0, _, _ => none
  | n + 1, v1, w => am_b (zM_w3 110 111 116) fun r1 => am_b (zM_isWord r1 w) fun r2 => if r2 = 0 then ((zM_summed w).bind fun r4 => if r4.1 = 0 then (am_b (zM_compareOf r4.2) fun r6 => if r6 < 0 then (some ((1, r4.2))) else ((zM_nextToken r4.2).bind fun r8 => (zM_summed r8).bind fun r9 => if r9.1 = 0 then ((zM_emit r6 0 r9.2).bind fun r11 => am_b ((va_up r11.1 83 (upd (r11.1 83) 19 ((r11.1 83 19) - v1)), r11.2)) fun w12 => zM_asks_L105 am_N v1 0 w12) else (some ((r9.1, r9.2))))) else (some ((r4.1, r4.2)))) else (if (w.1 83 19) = 8 then (some ((3, w))) else (am_b ((va_up w.1 83 (upd (w.1 83) 19 ((w.1 83 19) + 1)), w.2)) fun w16 => (zM_nextToken w16).bind fun r17 => zM_asks_L2 n (v1 + 1) r17))
set_option maxRecDepth 20000 in
theorem ezM_asks_L2 {d : Nat} (hd : 6 ≤ d) (R : Int32 × zHM) : ∀ (n : Nat) (v1 : Int32) (w : zHM), zM_asks_L2 n v1 w = some R → am_Rn 83 Xs am_P d 189 (2, [(0, .ref 83), (1, .int v1)], []) (am_sh, hx, w.1, w.2) (some (.int R.1), (am_sh, hx, R.2.1, R.2.2))
  | 0, _, _, hp => by cases hp
  | n + 1, v1, w, hp => by
    obtain ⟨d, rfl⟩ : ∃ k, d = k + 1 := ⟨d - 1, by omega⟩
    unfold zM_asks_L2 at hp
    refine am_Rn.run am_h189 4 (F' := (9, [(0, .ref 83), (1, .int v1)], [.int 116, .int 111, .int 110, .ref 83])) (S' := (am_sh, hx, w.1, w.2)) rfl ?_
    obtain ⟨r1, h_r1, hp⟩ := am_b_e hp
    refine am_Rn.call am_h189 (mj := 172) (As := [.int 110, .int 111, .int 116]) (F' := (12, [(0, .ref 83), (1, .int v1)], [.ref 83])) (M' := am_m172) (r := some (.long r1)) (S1 := (am_sh, hx, w.1, w.2)) rfl am_h172 rfl (by subst h_r1; exact (ezM_w3 (by omega) 110 111 116)) ?_
    obtain ⟨r2, h_r2, hp⟩ := am_b_e hp
    refine am_Rn.call am_h189 (mj := 176) (As := [.ref 83, .long r1]) (F' := (15, [(0, .ref 83), (1, .int v1)], [])) (M' := am_m176) (r := some (.int r2)) (S1 := (am_sh, hx, w.1, w.2)) rfl am_h176 rfl (by subst h_r2; exact (ezM_isWord (by omega) r1 w)) ?_
    refine am_Rn.ite am_h189 (c := r2 = 0) (t := 49) (f := 18) (lv := [(0, .ref 83), (1, .int v1)]) (st := []) (S' := (am_sh, hx, w.1, w.2)) rfl hp (fun hc3 hp => ?_) (fun hc3 hp => ?_)
    · refine am_Rn.run am_h189 1 (F' := (50, [(0, .ref 83), (1, .int v1)], [.ref 83])) (S' := (am_sh, hx, w.1, w.2)) rfl ?_
      obtain ⟨r4, h_r4, hp⟩ := am_bind hp
      refine am_Rn.call am_h189 (mj := 187) (As := [.ref 83]) (F' := (53, [(0, .ref 83), (1, .int v1)], [])) (M' := am_m187) (r := some (.int r4.1)) (S1 := (am_sh, hx, r4.2.1, r4.2.2)) rfl am_h187 rfl (ezM_summed (by omega) w _ h_r4) ?_
      refine am_Rn.run am_h189 2 (F' := (55, [(2, .int r4.1), (0, .ref 83), (1, .int v1)], [.int r4.1])) (S' := (am_sh, hx, r4.2.1, r4.2.2)) rfl ?_
      refine am_Rn.ite am_h189 (c := r4.1 = 0) (t := 60) (f := 58) (lv := [(2, .int r4.1), (0, .ref 83), (1, .int v1)]) (st := []) (S' := (am_sh, hx, r4.2.1, r4.2.2)) rfl hp (fun hc5 hp => ?_) (fun hc5 hp => ?_)
      · refine am_Rn.run am_h189 1 (F' := (61, [(2, .int r4.1), (0, .ref 83), (1, .int v1)], [.ref 83])) (S' := (am_sh, hx, r4.2.1, r4.2.2)) rfl ?_
        obtain ⟨r6, h_r6, hp⟩ := am_b_e hp
        refine am_Rn.call am_h189 (mj := 188) (As := [.ref 83]) (F' := (64, [(2, .int r4.1), (0, .ref 83), (1, .int v1)], [])) (M' := am_m188) (r := some (.int r6)) (S1 := (am_sh, hx, r4.2.1, r4.2.2)) rfl am_h188 rfl (by subst h_r6; exact (ezM_compareOf (by omega) r4.2)) ?_
        refine am_Rn.run am_h189 2 (F' := (66, [(3, .int r6), (2, .int r4.1), (0, .ref 83), (1, .int v1)], [.int r6])) (S' := (am_sh, hx, r4.2.1, r4.2.2)) rfl ?_
        refine am_Rn.ite am_h189 (c := r6 < 0) (t := 69) (f := 71) (lv := [(3, .int r6), (2, .int r4.1), (0, .ref 83), (1, .int v1)]) (st := []) (S' := (am_sh, hx, r4.2.1, r4.2.2)) rfl hp (fun hc7 hp => ?_) (fun hc7 hp => ?_)
        · refine am_Rn.run am_h189 1 (F' := (70, [(3, .int r6), (2, .int r4.1), (0, .ref 83), (1, .int v1)], [.int 1])) (S' := (am_sh, hx, r4.2.1, r4.2.2)) rfl ?_
          cases hp
          exact am_Rn.ret am_h189 rfl
        · refine am_Rn.run am_h189 1 (F' := (72, [(3, .int r6), (2, .int r4.1), (0, .ref 83), (1, .int v1)], [.ref 83])) (S' := (am_sh, hx, r4.2.1, r4.2.2)) rfl ?_
          obtain ⟨r8, h_r8, hp⟩ := am_bind hp
          refine am_Rn.call am_h189 (mj := 171) (As := [.ref 83]) (F' := (75, [(3, .int r6), (2, .int r4.1), (0, .ref 83), (1, .int v1)], [])) (M' := am_m171) (r := none) (S1 := (am_sh, hx, r8.1, r8.2)) rfl am_h171 rfl (ezM_nextToken (by omega) r4.2 _ h_r8) ?_
          refine am_Rn.run am_h189 1 (F' := (76, [(3, .int r6), (2, .int r4.1), (0, .ref 83), (1, .int v1)], [.ref 83])) (S' := (am_sh, hx, r8.1, r8.2)) rfl ?_
          obtain ⟨r9, h_r9, hp⟩ := am_bind hp
          refine am_Rn.call am_h189 (mj := 187) (As := [.ref 83]) (F' := (79, [(3, .int r6), (2, .int r4.1), (0, .ref 83), (1, .int v1)], [])) (M' := am_m187) (r := some (.int r9.1)) (S1 := (am_sh, hx, r9.2.1, r9.2.2)) rfl am_h187 rfl (ezM_summed (by omega) r8 _ h_r9) ?_
          refine am_Rn.run am_h189 2 (F' := (81, [(2, .int r9.1), (3, .int r6), (0, .ref 83), (1, .int v1)], [.int r9.1])) (S' := (am_sh, hx, r9.2.1, r9.2.2)) rfl ?_
          refine am_Rn.ite am_h189 (c := r9.1 = 0) (t := 86) (f := 84) (lv := [(2, .int r9.1), (3, .int r6), (0, .ref 83), (1, .int v1)]) (st := []) (S' := (am_sh, hx, r9.2.1, r9.2.2)) rfl hp (fun hc10 hp => ?_) (fun hc10 hp => ?_)
          · refine am_Rn.run am_h189 3 (F' := (89, [(2, .int r9.1), (3, .int r6), (0, .ref 83), (1, .int v1)], [.int 0, .int r6, .ref 83])) (S' := (am_sh, hx, r9.2.1, r9.2.2)) rfl ?_
            obtain ⟨r11, h_r11, hp⟩ := am_bind hp
            refine am_Rn.call am_h189 (mj := 177) (As := [.ref 83, .int r6, .int 0]) (F' := (92, [(2, .int r9.1), (3, .int r6), (0, .ref 83), (1, .int v1)], [])) (M' := am_m177) (r := none) (S1 := (am_sh, hx, r11.1, r11.2)) rfl am_h177 rfl (ezM_emit (by omega) r6 0 r9.2 _ h_r11) ?_
            obtain ⟨w12, h_w12, hp⟩ := am_b_e hp
            refine am_Rn.run am_h189 8 (F' := (105, [(4, .int 0), (2, .int r9.1), (3, .int r6), (0, .ref 83), (1, .int v1)], [])) (S' := (am_sh, hx, w12.1, w12.2)) (by subst h_w12; rfl) ?_
            refine am_Rn.sub [3, 4, 0] rfl rfl ?_
            exact ezM_asks_L105 hd R am_N v1 0 w12 hp
          · refine am_Rn.run am_h189 1 (F' := (85, [(2, .int r9.1), (3, .int r6), (0, .ref 83), (1, .int v1)], [.int r9.1])) (S' := (am_sh, hx, r9.2.1, r9.2.2)) rfl ?_
            cases hp
            exact am_Rn.ret am_h189 rfl
      · refine am_Rn.run am_h189 1 (F' := (59, [(2, .int r4.1), (0, .ref 83), (1, .int v1)], [.int r4.1])) (S' := (am_sh, hx, r4.2.1, r4.2.2)) rfl ?_
        cases hp
        exact am_Rn.ret am_h189 rfl
    · refine am_Rn.run am_h189 3 (F' := (24, [(0, .ref 83), (1, .int v1)], [.int 8, .int (w.1 83 19)])) (S' := (am_sh, hx, w.1, w.2)) rfl ?_
      refine am_Rn.ite am_h189 (c := (w.1 83 19) = 8) (t := 27) (f := 29) (lv := [(0, .ref 83), (1, .int v1)]) (st := []) (S' := (am_sh, hx, w.1, w.2)) rfl hp (fun hc15 hp => ?_) (fun hc15 hp => ?_)
      · refine am_Rn.run am_h189 1 (F' := (28, [(0, .ref 83), (1, .int v1)], [.int 3])) (S' := (am_sh, hx, w.1, w.2)) rfl ?_
        cases hp
        exact am_Rn.ret am_h189 rfl
      · obtain ⟨w16, h_w16, hp⟩ := am_b_e hp
        refine am_Rn.run am_h189 8 (F' := (43, [(1, .int (v1 + 1)), (0, .ref 83)], [.ref 83])) (S' := (am_sh, hx, w16.1, w16.2)) (by subst h_w16; rfl) ?_
        obtain ⟨r17, h_r17, hp⟩ := am_bind hp
        refine am_Rn.call am_h189 (mj := 171) (As := [.ref 83]) (F' := (46, [(1, .int (v1 + 1)), (0, .ref 83)], [])) (M' := am_m171) (r := none) (S1 := (am_sh, hx, r17.1, r17.2)) rfl am_h171 rfl (ezM_nextToken (by omega) w16 _ h_r17) ?_
        refine am_Rn.run am_h189 1 (F' := (2, [(1, .int (v1 + 1)), (0, .ref 83)], [])) (S' := (am_sh, hx, r17.1, r17.2)) rfl ?_
        refine am_Rn.sub [1, 0] rfl rfl ?_
        exact ezM_asks_L2 hd R n (v1 + 1) r17 hp
def zM_asks (w : zHM) : Option (Int32 × zHM) := zM_asks_L2 am_N 0 w
set_option maxRecDepth 20000 in
theorem ezM_asks {d : Nat} (hd : 6 ≤ d) (w : zHM) (R : Int32 × zHM) (hp : zM_asks w = some R) : am_Ev 83 Xs am_P d 189 [.ref 83] (am_sh, hx, w.1, w.2) (some (.int R.1), (am_sh, hx, R.2.1, R.2.2)) := by
  obtain ⟨d, rfl⟩ : ∃ k, d = k + 1 := ⟨d - 1, by omega⟩
  unfold zM_asks at hp
  show am_Rn 83 Xs am_P _ 189 (0, [(0, .ref 83)], []) _ _
  refine am_Rn.run am_h189 2 (F' := (2, [(1, .int 0), (0, .ref 83)], [])) (S' := (am_sh, hx, w.1, w.2)) rfl ?_
  refine am_Rn.sub [1, 0] rfl rfl ?_
  exact ezM_asks_L2 hd R am_N 0 w hp
/-- SixHandsModel.either()I [83] -/
def zM_either_J107 (k6 : Int32 → Int32 → Int32 → zHM → Option (Int32 × zHM)) (v1 : Int32) (v2 : Int32) (s0 : Int32) (w : zHM) : Option (Int32 × zHM) := if s0 = 0 then (k6 v1 v2 s0 w) else ((zM_nextToken w).bind fun r14 => k6 v1 v2 s0 r14)
set_option maxRecDepth 20000 in
theorem ezM_either_J107 {d : Nat} (hd : 7 ≤ d) (R : Int32 × zHM) (k6 : Int32 → Int32 → Int32 → zHM → Option (Int32 × zHM)) (hk6 : ∀ (v1 : Int32) (v2 : Int32) (v3 : Int32) (w : zHM), k6 v1 v2 v3 w = some R → am_Rn 83 Xs am_P d 190 (6, [(0, .ref 83), (1, .int v1), (2, .int v2), (3, .int v3)], []) (am_sh, hx, w.1, w.2) (some (.int R.1), (am_sh, hx, R.2.1, R.2.2))) (v1 : Int32) (v2 : Int32) (s0 : Int32) (w : zHM) (hp : zM_either_J107 k6 v1 v2 s0 w = some R) : am_Rn 83 Xs am_P d 190 (107, [(0, .ref 83), (1, .int v1), (2, .int v2)], [.int s0]) (am_sh, hx, w.1, w.2) (some (.int R.1), (am_sh, hx, R.2.1, R.2.2)) := by
  obtain ⟨d, rfl⟩ : ∃ k, d = k + 1 := ⟨d - 1, by omega⟩
  unfold zM_either_J107 at hp
  refine am_Rn.run am_h190 2 (F' := (109, [(3, .int s0), (0, .ref 83), (1, .int v1), (2, .int v2)], [.int s0])) (S' := (am_sh, hx, w.1, w.2)) rfl ?_
  refine am_Rn.ite am_h190 (c := s0 = 0) (t := 116) (f := 112) (lv := [(3, .int s0), (0, .ref 83), (1, .int v1), (2, .int v2)]) (st := []) (S' := (am_sh, hx, w.1, w.2)) rfl hp (fun hc13 hp => ?_) (fun hc13 hp => ?_)
  · refine am_Rn.run am_h190 1 (F' := (6, [(3, .int s0), (0, .ref 83), (1, .int v1), (2, .int v2)], [])) (S' := (am_sh, hx, w.1, w.2)) rfl ?_
    refine am_Rn.sub [1, 2, 3, 0] rfl rfl ?_
    exact hk6 v1 v2 s0 w hp
  · refine am_Rn.run am_h190 1 (F' := (113, [(3, .int s0), (0, .ref 83), (1, .int v1), (2, .int v2)], [.ref 83])) (S' := (am_sh, hx, w.1, w.2)) rfl ?_
    obtain ⟨r14, h_r14, hp⟩ := am_bind hp
    refine am_Rn.call am_h190 (mj := 171) (As := [.ref 83]) (F' := (116, [(3, .int s0), (0, .ref 83), (1, .int v1), (2, .int v2)], [])) (M' := am_m171) (r := none) (S1 := (am_sh, hx, r14.1, r14.2)) rfl am_h171 rfl (ezM_nextToken (by omega) w _ h_r14) ?_
    refine am_Rn.run am_h190 1 (F' := (6, [(3, .int s0), (0, .ref 83), (1, .int v1), (2, .int v2)], [])) (S' := (am_sh, hx, r14.1, r14.2)) rfl ?_
    refine am_Rn.sub [1, 2, 3, 0] rfl rfl ?_
    exact hk6 v1 v2 s0 r14 hp
def zM_either_J102 (k6 : Int32 → Int32 → Int32 → zHM → Option (Int32 × zHM)) (v1 : Int32) (v2 : Int32) (w : zHM) : Option (Int32 × zHM) := zM_either_J107 k6 v1 v2 1 w
set_option maxRecDepth 20000 in
theorem ezM_either_J102 {d : Nat} (hd : 7 ≤ d) (R : Int32 × zHM) (k6 : Int32 → Int32 → Int32 → zHM → Option (Int32 × zHM)) (hk6 : ∀ (v1 : Int32) (v2 : Int32) (v3 : Int32) (w : zHM), k6 v1 v2 v3 w = some R → am_Rn 83 Xs am_P d 190 (6, [(0, .ref 83), (1, .int v1), (2, .int v2), (3, .int v3)], []) (am_sh, hx, w.1, w.2) (some (.int R.1), (am_sh, hx, R.2.1, R.2.2))) (v1 : Int32) (v2 : Int32) (w : zHM) (hp : zM_either_J102 k6 v1 v2 w = some R) : am_Rn 83 Xs am_P d 190 (102, [(0, .ref 83), (1, .int v1), (2, .int v2)], []) (am_sh, hx, w.1, w.2) (some (.int R.1), (am_sh, hx, R.2.1, R.2.2)) := by
  obtain ⟨d, rfl⟩ : ∃ k, d = k + 1 := ⟨d - 1, by omega⟩
  unfold zM_either_J102 at hp
  refine am_Rn.run am_h190 2 (F' := (107, [(0, .ref 83), (1, .int v1), (2, .int v2)], [.int 1])) (S' := (am_sh, hx, w.1, w.2)) rfl ?_
  exact ezM_either_J107 hd R k6 hk6 v1 v2 1 w hp
def zM_either_J93 (k6 : Int32 → Int32 → Int32 → zHM → Option (Int32 × zHM)) (v1 : Int32) (v2 : Int32) (v5 : Int32) (w : zHM) : Option (Int32 × zHM) := if v1 = 0 then (if v5 = 0 then (zM_either_J107 k6 v1 v2 0 w) else (zM_either_J102 k6 v1 v2 w)) else (zM_either_J102 k6 v1 v2 w)
set_option maxRecDepth 20000 in
theorem ezM_either_J93 {d : Nat} (hd : 7 ≤ d) (R : Int32 × zHM) (k6 : Int32 → Int32 → Int32 → zHM → Option (Int32 × zHM)) (hk6 : ∀ (v1 : Int32) (v2 : Int32) (v3 : Int32) (w : zHM), k6 v1 v2 v3 w = some R → am_Rn 83 Xs am_P d 190 (6, [(0, .ref 83), (1, .int v1), (2, .int v2), (3, .int v3)], []) (am_sh, hx, w.1, w.2) (some (.int R.1), (am_sh, hx, R.2.1, R.2.2))) (v1 : Int32) (v2 : Int32) (v5 : Int32) (w : zHM) (hp : zM_either_J93 k6 v1 v2 v5 w = some R) : am_Rn 83 Xs am_P d 190 (93, [(0, .ref 83), (1, .int v1), (2, .int v2), (5, .int v5)], []) (am_sh, hx, w.1, w.2) (some (.int R.1), (am_sh, hx, R.2.1, R.2.2)) := by
  obtain ⟨d, rfl⟩ : ∃ k, d = k + 1 := ⟨d - 1, by omega⟩
  unfold zM_either_J93 at hp
  refine am_Rn.run am_h190 1 (F' := (94, [(0, .ref 83), (1, .int v1), (2, .int v2), (5, .int v5)], [.int v1])) (S' := (am_sh, hx, w.1, w.2)) rfl ?_
  refine am_Rn.ite am_h190 (c := v1 = 0) (t := 97) (f := 102) (lv := [(0, .ref 83), (1, .int v1), (2, .int v2), (5, .int v5)]) (st := []) (S' := (am_sh, hx, w.1, w.2)) rfl hp (fun hc11 hp => ?_) (fun hc11 hp => ?_)
  · refine am_Rn.run am_h190 1 (F' := (99, [(0, .ref 83), (1, .int v1), (2, .int v2), (5, .int v5)], [.int v5])) (S' := (am_sh, hx, w.1, w.2)) rfl ?_
    refine am_Rn.ite am_h190 (c := v5 = 0) (t := 106) (f := 102) (lv := [(0, .ref 83), (1, .int v1), (2, .int v2), (5, .int v5)]) (st := []) (S' := (am_sh, hx, w.1, w.2)) rfl hp (fun hc12 hp => ?_) (fun hc12 hp => ?_)
    · refine am_Rn.run am_h190 1 (F' := (107, [(0, .ref 83), (1, .int v1), (2, .int v2), (5, .int v5)], [.int 0])) (S' := (am_sh, hx, w.1, w.2)) rfl ?_
      refine am_Rn.sub [0, 1, 2] rfl rfl ?_
      exact ezM_either_J107 hd R k6 hk6 v1 v2 0 w hp
    · refine am_Rn.sub [0, 1, 2] rfl rfl ?_
      exact ezM_either_J102 hd R k6 hk6 v1 v2 w hp
  · refine am_Rn.sub [0, 1, 2] rfl rfl ?_
    exact ezM_either_J102 hd R k6 hk6 v1 v2 w hp
def zM_either_J90 (k6 : Int32 → Int32 → Int32 → zHM → Option (Int32 × zHM)) (v1 : Int32) (v5 : Int32) (w : zHM) : Option (Int32 × zHM) := zM_either_J93 k6 v1 v5 v5 w
set_option maxRecDepth 20000 in
theorem ezM_either_J90 {d : Nat} (hd : 7 ≤ d) (R : Int32 × zHM) (k6 : Int32 → Int32 → Int32 → zHM → Option (Int32 × zHM)) (hk6 : ∀ (v1 : Int32) (v2 : Int32) (v3 : Int32) (w : zHM), k6 v1 v2 v3 w = some R → am_Rn 83 Xs am_P d 190 (6, [(0, .ref 83), (1, .int v1), (2, .int v2), (3, .int v3)], []) (am_sh, hx, w.1, w.2) (some (.int R.1), (am_sh, hx, R.2.1, R.2.2))) (v1 : Int32) (v5 : Int32) (w : zHM) (hp : zM_either_J90 k6 v1 v5 w = some R) : am_Rn 83 Xs am_P d 190 (90, [(0, .ref 83), (1, .int v1), (5, .int v5)], []) (am_sh, hx, w.1, w.2) (some (.int R.1), (am_sh, hx, R.2.1, R.2.2)) := by
  obtain ⟨d, rfl⟩ : ∃ k, d = k + 1 := ⟨d - 1, by omega⟩
  unfold zM_either_J90 at hp
  refine am_Rn.run am_h190 2 (F' := (93, [(2, .int v5), (0, .ref 83), (1, .int v1), (5, .int v5)], [])) (S' := (am_sh, hx, w.1, w.2)) rfl ?_
  refine am_Rn.sub [1, 2, 0, 3] rfl rfl ?_
  exact ezM_either_J93 hd R k6 hk6 v1 v5 v5 w hp
def zM_either_J73 (k6 : Int32 → Int32 → Int32 → zHM → Option (Int32 × zHM)) (v1 : Int32) (v2 : Int32) (s0 : Int32) (w : zHM) : Option (Int32 × zHM) := if v1 = 0 then (if v2 = 0 then (zM_either_J90 k6 v1 s0 w) else ((zM_emit 22 0 w).bind fun r15 => zM_either_J90 k6 v1 s0 r15)) else (zM_either_J93 k6 v1 v2 s0 w)
set_option maxRecDepth 20000 in
theorem ezM_either_J73 {d : Nat} (hd : 7 ≤ d) (R : Int32 × zHM) (k6 : Int32 → Int32 → Int32 → zHM → Option (Int32 × zHM)) (hk6 : ∀ (v1 : Int32) (v2 : Int32) (v3 : Int32) (w : zHM), k6 v1 v2 v3 w = some R → am_Rn 83 Xs am_P d 190 (6, [(0, .ref 83), (1, .int v1), (2, .int v2), (3, .int v3)], []) (am_sh, hx, w.1, w.2) (some (.int R.1), (am_sh, hx, R.2.1, R.2.2))) (v1 : Int32) (v2 : Int32) (s0 : Int32) (w : zHM) (hp : zM_either_J73 k6 v1 v2 s0 w = some R) : am_Rn 83 Xs am_P d 190 (73, [(0, .ref 83), (1, .int v1), (2, .int v2)], [.int s0]) (am_sh, hx, w.1, w.2) (some (.int R.1), (am_sh, hx, R.2.1, R.2.2)) := by
  obtain ⟨d, rfl⟩ : ∃ k, d = k + 1 := ⟨d - 1, by omega⟩
  unfold zM_either_J73 at hp
  refine am_Rn.run am_h190 2 (F' := (76, [(5, .int s0), (0, .ref 83), (1, .int v1), (2, .int v2)], [.int v1])) (S' := (am_sh, hx, w.1, w.2)) rfl ?_
  refine am_Rn.ite am_h190 (c := v1 = 0) (t := 79) (f := 93) (lv := [(5, .int s0), (0, .ref 83), (1, .int v1), (2, .int v2)]) (st := []) (S' := (am_sh, hx, w.1, w.2)) rfl hp (fun hc9 hp => ?_) (fun hc9 hp => ?_)
  · refine am_Rn.run am_h190 1 (F' := (80, [(5, .int s0), (0, .ref 83), (1, .int v1), (2, .int v2)], [.int v2])) (S' := (am_sh, hx, w.1, w.2)) rfl ?_
    refine am_Rn.ite am_h190 (c := v2 = 0) (t := 90) (f := 83) (lv := [(5, .int s0), (0, .ref 83), (1, .int v1), (2, .int v2)]) (st := []) (S' := (am_sh, hx, w.1, w.2)) rfl hp (fun hc10 hp => ?_) (fun hc10 hp => ?_)
    · refine am_Rn.sub [1, 2, 0] rfl rfl ?_
      exact ezM_either_J90 hd R k6 hk6 v1 s0 w hp
    · refine am_Rn.run am_h190 3 (F' := (87, [(5, .int s0), (0, .ref 83), (1, .int v1), (2, .int v2)], [.int 0, .int 22, .ref 83])) (S' := (am_sh, hx, w.1, w.2)) rfl ?_
      obtain ⟨r15, h_r15, hp⟩ := am_bind hp
      refine am_Rn.call am_h190 (mj := 177) (As := [.ref 83, .int 22, .int 0]) (F' := (90, [(5, .int s0), (0, .ref 83), (1, .int v1), (2, .int v2)], [])) (M' := am_m177) (r := none) (S1 := (am_sh, hx, r15.1, r15.2)) rfl am_h177 rfl (ezM_emit (by omega) 22 0 w _ h_r15) ?_
      refine am_Rn.sub [1, 2, 0] rfl rfl ?_
      exact ezM_either_J90 hd R k6 hk6 v1 s0 r15 hp
  · refine am_Rn.sub [1, 2, 3, 0] rfl rfl ?_
    exact ezM_either_J93 hd R k6 hk6 v1 v2 s0 w hp
def zM_either_J72 (k6 : Int32 → Int32 → Int32 → zHM → Option (Int32 × zHM)) (v1 : Int32) (v2 : Int32) (w : zHM) : Option (Int32 × zHM) := zM_either_J73 k6 v1 v2 0 w
set_option maxRecDepth 20000 in
theorem ezM_either_J72 {d : Nat} (hd : 7 ≤ d) (R : Int32 × zHM) (k6 : Int32 → Int32 → Int32 → zHM → Option (Int32 × zHM)) (hk6 : ∀ (v1 : Int32) (v2 : Int32) (v3 : Int32) (w : zHM), k6 v1 v2 v3 w = some R → am_Rn 83 Xs am_P d 190 (6, [(0, .ref 83), (1, .int v1), (2, .int v2), (3, .int v3)], []) (am_sh, hx, w.1, w.2) (some (.int R.1), (am_sh, hx, R.2.1, R.2.2))) (v1 : Int32) (v2 : Int32) (w : zHM) (hp : zM_either_J72 k6 v1 v2 w = some R) : am_Rn 83 Xs am_P d 190 (72, [(0, .ref 83), (1, .int v1), (2, .int v2)], []) (am_sh, hx, w.1, w.2) (some (.int R.1), (am_sh, hx, R.2.1, R.2.2)) := by
  obtain ⟨d, rfl⟩ : ∃ k, d = k + 1 := ⟨d - 1, by omega⟩
  unfold zM_either_J72 at hp
  refine am_Rn.run am_h190 1 (F' := (73, [(0, .ref 83), (1, .int v1), (2, .int v2)], [.int 0])) (S' := (am_sh, hx, w.1, w.2)) rfl ?_
  exact ezM_either_J73 hd R k6 hk6 v1 v2 0 w hp
def zM_either_J35 (k6 : Int32 → Int32 → Int32 → zHM → Option (Int32 × zHM)) (v2 : Int32) (w : zHM) : Option (Int32 × zHM) := am_b (zM_w3 97 110 100) fun r5 => am_b (zM_isWord r5 w) fun r6 => if (w.1 83 10) = 2 then (if (lg_cmp (w.2 83 12) 28530) = 0 then (zM_either_J73 k6 r6 v2 1 w) else (zM_either_J72 k6 r6 v2 w)) else (zM_either_J72 k6 r6 v2 w)
set_option maxRecDepth 20000 in
theorem ezM_either_J35 {d : Nat} (hd : 7 ≤ d) (R : Int32 × zHM) (k6 : Int32 → Int32 → Int32 → zHM → Option (Int32 × zHM)) (hk6 : ∀ (v1 : Int32) (v2 : Int32) (v3 : Int32) (w : zHM), k6 v1 v2 v3 w = some R → am_Rn 83 Xs am_P d 190 (6, [(0, .ref 83), (1, .int v1), (2, .int v2), (3, .int v3)], []) (am_sh, hx, w.1, w.2) (some (.int R.1), (am_sh, hx, R.2.1, R.2.2))) (v2 : Int32) (w : zHM) (hp : zM_either_J35 k6 v2 w = some R) : am_Rn 83 Xs am_P d 190 (35, [(0, .ref 83), (2, .int v2)], []) (am_sh, hx, w.1, w.2) (some (.int R.1), (am_sh, hx, R.2.1, R.2.2)) := by
  obtain ⟨d, rfl⟩ : ∃ k, d = k + 1 := ⟨d - 1, by omega⟩
  unfold zM_either_J35 at hp
  refine am_Rn.run am_h190 4 (F' := (42, [(0, .ref 83), (2, .int v2)], [.int 100, .int 110, .int 97, .ref 83])) (S' := (am_sh, hx, w.1, w.2)) rfl ?_
  obtain ⟨r5, h_r5, hp⟩ := am_b_e hp
  refine am_Rn.call am_h190 (mj := 172) (As := [.int 97, .int 110, .int 100]) (F' := (45, [(0, .ref 83), (2, .int v2)], [.ref 83])) (M' := am_m172) (r := some (.long r5)) (S1 := (am_sh, hx, w.1, w.2)) rfl am_h172 rfl (by subst h_r5; exact (ezM_w3 (by omega) 97 110 100)) ?_
  obtain ⟨r6, h_r6, hp⟩ := am_b_e hp
  refine am_Rn.call am_h190 (mj := 176) (As := [.ref 83, .long r5]) (F' := (48, [(0, .ref 83), (2, .int v2)], [])) (M' := am_m176) (r := some (.int r6)) (S1 := (am_sh, hx, w.1, w.2)) rfl am_h176 rfl (by subst h_r6; exact (ezM_isWord (by omega) r5 w)) ?_
  refine am_Rn.run am_h190 4 (F' := (54, [(1, .int r6), (0, .ref 83), (2, .int v2)], [.int 2, .int (w.1 83 10)])) (S' := (am_sh, hx, w.1, w.2)) rfl ?_
  refine am_Rn.ite am_h190 (c := (w.1 83 10) = 2) (t := 57) (f := 72) (lv := [(1, .int r6), (0, .ref 83), (2, .int v2)]) (st := []) (S' := (am_sh, hx, w.1, w.2)) rfl hp (fun hc7 hp => ?_) (fun hc7 hp => ?_)
  · refine am_Rn.run am_h190 4 (F' := (65, [(1, .int r6), (0, .ref 83), (2, .int v2)], [.int (lg_cmp (w.2 83 12) 28530)])) (S' := (am_sh, hx, w.1, w.2)) rfl ?_
    refine am_Rn.ite am_h190 (c := (lg_cmp (w.2 83 12) 28530) = 0) (t := 68) (f := 72) (lv := [(1, .int r6), (0, .ref 83), (2, .int v2)]) (st := []) (S' := (am_sh, hx, w.1, w.2)) rfl hp (fun hc8 hp => ?_) (fun hc8 hp => ?_)
    · refine am_Rn.run am_h190 2 (F' := (73, [(1, .int r6), (0, .ref 83), (2, .int v2)], [.int 1])) (S' := (am_sh, hx, w.1, w.2)) rfl ?_
      refine am_Rn.sub [1, 0, 2] rfl rfl ?_
      exact ezM_either_J73 hd R k6 hk6 r6 v2 1 w hp
    · refine am_Rn.sub [1, 0, 2] rfl rfl ?_
      exact ezM_either_J72 hd R k6 hk6 r6 v2 w hp
  · refine am_Rn.sub [1, 0, 2] rfl rfl ?_
    exact ezM_either_J72 hd R k6 hk6 r6 v2 w hp
def zM_either_L6 : Nat → Int32 → Int32 → Int32 → zHM → Option (Int32 × zHM)
  | 0, _, _, _, _ => none
  | n + 1, v1, v2, v3, w => if v3 = 0 then (some ((0, w))) else ((zM_asks w).bind fun r2 => if r2.1 = 0 then (if v1 = 0 then (zM_either_J35 (fun v1 v2 v3 w => zM_either_L6 n v1 v2 v3 w) v2 r2.2) else ((zM_emit 21 0 r2.2).bind fun r16 => zM_either_J35 (fun v1 v2 v3 w => zM_either_L6 n v1 v2 v3 w) v2 r16)) else (some ((r2.1, r2.2))))
set_option maxRecDepth 20000 in
theorem ezM_either_L6 {d : Nat} (hd : 7 ≤ d) (R : Int32 × zHM) : ∀ (n : Nat) (v1 : Int32) (v2 : Int32) (v3 : Int32) (w : zHM), zM_either_L6 n v1 v2 v3 w = some R → am_Rn 83 Xs am_P d 190 (6, [(0, .ref 83), (1, .int v1), (2, .int v2), (3, .int v3)], []) (am_sh, hx, w.1, w.2) (some (.int R.1), (am_sh, hx, R.2.1, R.2.2))
  | 0, _, _, _, _, hp => by cases hp
  | n + 1, v1, v2, v3, w, hp => by
    obtain ⟨d, rfl⟩ : ∃ k, d = k + 1 := ⟨d - 1, by omega⟩
    unfold zM_either_L6 at hp
    refine am_Rn.run am_h190 1 (F' := (7, [(0, .ref 83), (1, .int v1), (2, .int v2), (3, .int v3)], [.int v3])) (S' := (am_sh, hx, w.1, w.2)) rfl ?_
    refine am_Rn.ite am_h190 (c := v3 = 0) (t := 119) (f := 10) (lv := [(0, .ref 83), (1, .int v1), (2, .int v2), (3, .int v3)]) (st := []) (S' := (am_sh, hx, w.1, w.2)) rfl hp (fun hc1 hp => ?_) (fun hc1 hp => ?_)
    · refine am_Rn.run am_h190 1 (F' := (120, [(0, .ref 83), (1, .int v1), (2, .int v2), (3, .int v3)], [.int 0])) (S' := (am_sh, hx, w.1, w.2)) rfl ?_
      cases hp
      exact am_Rn.ret am_h190 rfl
    · refine am_Rn.run am_h190 1 (F' := (11, [(0, .ref 83), (1, .int v1), (2, .int v2), (3, .int v3)], [.ref 83])) (S' := (am_sh, hx, w.1, w.2)) rfl ?_
      obtain ⟨r2, h_r2, hp⟩ := am_bind hp
      refine am_Rn.call am_h190 (mj := 189) (As := [.ref 83]) (F' := (14, [(0, .ref 83), (1, .int v1), (2, .int v2), (3, .int v3)], [])) (M' := am_m189) (r := some (.int r2.1)) (S1 := (am_sh, hx, r2.2.1, r2.2.2)) rfl am_h189 rfl (ezM_asks (by omega) w _ h_r2) ?_
      refine am_Rn.run am_h190 2 (F' := (18, [(4, .int r2.1), (0, .ref 83), (1, .int v1), (2, .int v2), (3, .int v3)], [.int r2.1])) (S' := (am_sh, hx, r2.2.1, r2.2.2)) rfl ?_
      refine am_Rn.ite am_h190 (c := r2.1 = 0) (t := 24) (f := 21) (lv := [(4, .int r2.1), (0, .ref 83), (1, .int v1), (2, .int v2), (3, .int v3)]) (st := []) (S' := (am_sh, hx, r2.2.1, r2.2.2)) rfl hp (fun hc3 hp => ?_) (fun hc3 hp => ?_)
      · refine am_Rn.run am_h190 1 (F' := (25, [(4, .int r2.1), (0, .ref 83), (1, .int v1), (2, .int v2), (3, .int v3)], [.int v1])) (S' := (am_sh, hx, r2.2.1, r2.2.2)) rfl ?_
        refine am_Rn.ite am_h190 (c := v1 = 0) (t := 35) (f := 28) (lv := [(4, .int r2.1), (0, .ref 83), (1, .int v1), (2, .int v2), (3, .int v3)]) (st := []) (S' := (am_sh, hx, r2.2.1, r2.2.2)) rfl hp (fun hc4 hp => ?_) (fun hc4 hp => ?_)
        · refine am_Rn.sub [1, 3] rfl rfl ?_
          exact ezM_either_J35 hd R (fun v1 v2 v3 w => zM_either_L6 n v1 v2 v3 w) (fun v1 v2 v3 w hp => ezM_either_L6 hd R n v1 v2 v3 w hp) v2 r2.2 hp
        · refine am_Rn.run am_h190 3 (F' := (32, [(4, .int r2.1), (0, .ref 83), (1, .int v1), (2, .int v2), (3, .int v3)], [.int 0, .int 21, .ref 83])) (S' := (am_sh, hx, r2.2.1, r2.2.2)) rfl ?_
          obtain ⟨r16, h_r16, hp⟩ := am_bind hp
          refine am_Rn.call am_h190 (mj := 177) (As := [.ref 83, .int 21, .int 0]) (F' := (35, [(4, .int r2.1), (0, .ref 83), (1, .int v1), (2, .int v2), (3, .int v3)], [])) (M' := am_m177) (r := none) (S1 := (am_sh, hx, r16.1, r16.2)) rfl am_h177 rfl (ezM_emit (by omega) 21 0 r2.2 _ h_r16) ?_
          refine am_Rn.sub [1, 3] rfl rfl ?_
          exact ezM_either_J35 hd R (fun v1 v2 v3 w => zM_either_L6 n v1 v2 v3 w) (fun v1 v2 v3 w hp => ezM_either_L6 hd R n v1 v2 v3 w hp) v2 r16 hp
      · refine am_Rn.run am_h190 1 (F' := (23, [(4, .int r2.1), (0, .ref 83), (1, .int v1), (2, .int v2), (3, .int v3)], [.int r2.1])) (S' := (am_sh, hx, r2.2.1, r2.2.2)) rfl ?_
        cases hp
        exact am_Rn.ret am_h190 rfl
def zM_either (w : zHM) : Option (Int32 × zHM) := zM_either_L6 am_N 0 0 1 w
set_option maxRecDepth 20000 in
theorem ezM_either {d : Nat} (hd : 7 ≤ d) (w : zHM) (R : Int32 × zHM) (hp : zM_either w = some R) : am_Ev 83 Xs am_P d 190 [.ref 83] (am_sh, hx, w.1, w.2) (some (.int R.1), (am_sh, hx, R.2.1, R.2.2)) := by
  obtain ⟨d, rfl⟩ : ∃ k, d = k + 1 := ⟨d - 1, by omega⟩
  unfold zM_either at hp
  show am_Rn 83 Xs am_P _ 190 (0, [(0, .ref 83)], []) _ _
  refine am_Rn.run am_h190 6 (F' := (6, [(3, .int 1), (2, .int 0), (1, .int 0), (0, .ref 83)], [])) (S' := (am_sh, hx, w.1, w.2)) rfl ?_
  refine am_Rn.sub [3, 2, 1, 0] rfl rfl ?_
  exact ezM_either_L6 hd R am_N 0 0 1 w hp
/-- SixHandsModel.figure0(II)I [83] -/
def zM_figure0 (v1 : Int32) (v2 : Int32) (w : zHM) : Option (Int32 × zHM) := if (w.1 83 10) = 1 then (if v2 < (w.1 83 11) then (some ((2, w))) else (am_ix 3160 v1 (am_b ((va_up w.1 86 (upd (w.1 86) (v1.toNatClampNeg) (w.1 83 11)), w.2)) fun w4 => (zM_nextToken w4).bind fun r5 => some ((0, r5))))) else (some ((1, w)))
set_option maxRecDepth 20000 in
theorem ezM_figure0 {d : Nat} (hd : 3 ≤ d) (v1 : Int32) (v2 : Int32) (w : zHM) (R : Int32 × zHM) (hp : zM_figure0 v1 v2 w = some R) : am_Ev 83 Xs am_P d 192 [.ref 83, .int v1, .int v2] (am_sh, hx, w.1, w.2) (some (.int R.1), (am_sh, hx, R.2.1, R.2.2)) := by
  obtain ⟨d, rfl⟩ : ∃ k, d = k + 1 := ⟨d - 1, by omega⟩
  unfold zM_figure0 at hp
  show am_Rn 83 Xs am_P _ 192 (0, [(0, .ref 83), (1, .int v1), (2, .int v2)], []) _ _
  refine am_Rn.run am_h192 3 (F' := (5, [(0, .ref 83), (1, .int v1), (2, .int v2)], [.int 1, .int (w.1 83 10)])) (S' := (am_sh, hx, w.1, w.2)) rfl ?_
  refine am_Rn.ite am_h192 (c := (w.1 83 10) = 1) (t := 10) (f := 8) (lv := [(0, .ref 83), (1, .int v1), (2, .int v2)]) (st := []) (S' := (am_sh, hx, w.1, w.2)) rfl hp (fun hc1 hp => ?_) (fun hc1 hp => ?_)
  · refine am_Rn.run am_h192 3 (F' := (15, [(0, .ref 83), (1, .int v1), (2, .int v2)], [.int v2, .int (w.1 83 11)])) (S' := (am_sh, hx, w.1, w.2)) rfl ?_
    refine am_Rn.ite am_h192 (c := v2 < (w.1 83 11)) (t := 18) (f := 20) (lv := [(0, .ref 83), (1, .int v1), (2, .int v2)]) (st := []) (S' := (am_sh, hx, w.1, w.2)) rfl hp (fun hc2 hp => ?_) (fun hc2 hp => ?_)
    · refine am_Rn.run am_h192 1 (F' := (19, [(0, .ref 83), (1, .int v1), (2, .int v2)], [.int 2])) (S' := (am_sh, hx, w.1, w.2)) rfl ?_
      cases hp
      exact am_Rn.ret am_h192 rfl
    · refine am_Rn.run am_h192 5 (F' := (29, [(0, .ref 83), (1, .int v1), (2, .int v2)], [.int (w.1 83 11), .int v1, .ref 86])) (S' := (am_sh, hx, w.1, w.2)) rfl ?_
      obtain ⟨hn3, hp⟩ := am_ix_e hp
      obtain ⟨w4, h_w4, hp⟩ := am_b_e hp
      refine am_Rn.stepG am_h192 (c := v1 < 0 ∨ 3160 ≤ v1.toNatClampNeg) (F' := (30, [(0, .ref 83), (1, .int v1), (2, .int v2)], [])) (S' := (am_sh, hx, w4.1, w4.2)) (by subst h_w4; rfl) hn3 ?_
      refine am_Rn.run am_h192 1 (F' := (31, [(0, .ref 83), (1, .int v1), (2, .int v2)], [.ref 83])) (S' := (am_sh, hx, w4.1, w4.2)) rfl ?_
      obtain ⟨r5, h_r5, hp⟩ := am_bind hp
      refine am_Rn.call am_h192 (mj := 171) (As := [.ref 83]) (F' := (34, [(0, .ref 83), (1, .int v1), (2, .int v2)], [])) (M' := am_m171) (r := none) (S1 := (am_sh, hx, r5.1, r5.2)) rfl am_h171 rfl (ezM_nextToken (by omega) w4 _ h_r5) ?_
      refine am_Rn.run am_h192 1 (F' := (35, [(0, .ref 83), (1, .int v1), (2, .int v2)], [.int 0])) (S' := (am_sh, hx, r5.1, r5.2)) rfl ?_
      cases hp
      exact am_Rn.ret am_h192 rfl
  · refine am_Rn.run am_h192 1 (F' := (9, [(0, .ref 83), (1, .int v1), (2, .int v2)], [.int 1])) (S' := (am_sh, hx, w.1, w.2)) rfl ?_
    cases hp
    exact am_Rn.ret am_h192 rfl
end
