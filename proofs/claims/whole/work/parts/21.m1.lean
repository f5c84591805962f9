section
variable {Xs : Nat × (Nat → Int32)} {hx hm : Nat → Nat → Int32} {g : Nat → Nat → Int64} {S : am_S}
/-- SixHandsModel.nameOf()I [83] -/
def zM_nameOf (w : zHM) : Int32 := if (w.1 83 10) = 2 then (am_b (zM_w6 102 105 103 117 114 101) fun r2 => if (lg_cmp (w.2 83 12) r2) = 0 then (0) else (am_b (zM_w4 107 105 110 100) fun r4 => if (lg_cmp (w.2 83 12) r4) = 0 then (1) else (am_b (zM_w5 112 108 97 99 101) fun r6 => if (lg_cmp (w.2 83 12) r6) = 0 then (2) else (am_b (zM_w4 98 101 97 116) fun r8 => if (lg_cmp (w.2 83 12) r8) = 0 then (3) else (am_b (zM_w3 119 104 111) fun r10 => if (lg_cmp (w.2 83 12) r10) = 0 then (4) else (am_b (zM_w5 114 105 103 104 116) fun r12 => if (lg_cmp (w.2 83 12) r12) = 0 then (5) else (am_b (zM_w4 102 114 111 109) fun r14 => if (lg_cmp (w.2 83 12) r14) = 0 then (6) else (if (lg_cmp (w.2 83 12) 29807) = 0 then (7) else (am_b (zM_w4 115 101 97 116) fun r17 => if (lg_cmp (w.2 83 12) r17) = 0 then (8) else (am_b (zM_w4 109 97 110 121) fun r19 => if (lg_cmp (w.2 83 12) r19) = 0 then (9) else ((-1)))))))))))) else ((-1))
theorem ezM_nameOf {d : Nat} (hd : 3 ≤ d) (w : zHM) : am_Ev 83 Xs am_P d 181 [.ref 83] (am_sh, hx, w.1, w.2) (some (.int ((zM_nameOf w))), (am_sh, hx, w.1, w.2)) := by
  obtain ⟨R, hp⟩ : ∃ R, zM_nameOf w = R := ⟨_, rfl⟩
  rw [hp]
  obtain ⟨d, rfl⟩ : ∃ k, d = k + 1 := ⟨d - 1, by omega⟩
  unfold zM_nameOf at hp
  show am_Rn 83 Xs am_P _ 181 (0, [(0, .ref 83)], []) _ _
  refine am_Rn.run am_h181 3 (F' := (5, [(0, .ref 83)], [.int 2, .int (w.1 83 10)])) (S' := (am_sh, hx, w.1, w.2)) rfl ?_
  refine am_Rn.ite am_h181 (c := (w.1 83 10) = 2) (t := 10) (f := 8) (lv := [(0, .ref 83)]) (st := []) (S' := (am_sh, hx, w.1, w.2)) rfl hp (fun hc1 hp => ?_) (fun hc1 hp => ?_)
  · refine am_Rn.run am_h181 8 (F' := (26, [(0, .ref 83)], [.int 101, .int 114, .int 117, .int 103, .int 105, .int 102, .long (w.2 83 12)])) (S' := (am_sh, hx, w.1, w.2)) rfl ?_
    obtain ⟨r2, h_r2, hp⟩ := am_b_e hp
    refine am_Rn.call am_h181 (mj := 175) (As := [.int 102, .int 105, .int 103, .int 117, .int 114, .int 101]) (F' := (29, [(0, .ref 83)], [.long (w.2 83 12)])) (M' := am_m175) (r := some (.long r2)) (S1 := (am_sh, hx, w.1, w.2)) rfl am_h175 rfl (by subst h_r2; exact (ezM_w6 (by omega) 102 105 103 117 114 101)) ?_
    refine am_Rn.run am_h181 1 (F' := (30, [(0, .ref 83)], [.int (lg_cmp (w.2 83 12) r2)])) (S' := (am_sh, hx, w.1, w.2)) rfl ?_
    refine am_Rn.ite am_h181 (c := (lg_cmp (w.2 83 12) r2) = 0) (t := 33) (f := 35) (lv := [(0, .ref 83)]) (st := []) (S' := (am_sh, hx, w.1, w.2)) rfl hp (fun hc3 hp => ?_) (fun hc3 hp => ?_)
    · refine am_Rn.run am_h181 1 (F' := (34, [(0, .ref 83)], [.int 0])) (S' := (am_sh, hx, w.1, w.2)) rfl ?_
      subst hp
      exact am_Rn.ret am_h181 rfl
    · refine am_Rn.run am_h181 6 (F' := (47, [(0, .ref 83)], [.int 100, .int 110, .int 105, .int 107, .long (w.2 83 12)])) (S' := (am_sh, hx, w.1, w.2)) rfl ?_
      obtain ⟨r4, h_r4, hp⟩ := am_b_e hp
      refine am_Rn.call am_h181 (mj := 174) (As := [.int 107, .int 105, .int 110, .int 100]) (F' := (50, [(0, .ref 83)], [.long (w.2 83 12)])) (M' := am_m174) (r := some (.long r4)) (S1 := (am_sh, hx, w.1, w.2)) rfl am_h174 rfl (by subst h_r4; exact (ezM_w4 (by omega) 107 105 110 100)) ?_
      refine am_Rn.run am_h181 1 (F' := (51, [(0, .ref 83)], [.int (lg_cmp (w.2 83 12) r4)])) (S' := (am_sh, hx, w.1, w.2)) rfl ?_
      refine am_Rn.ite am_h181 (c := (lg_cmp (w.2 83 12) r4) = 0) (t := 54) (f := 56) (lv := [(0, .ref 83)]) (st := []) (S' := (am_sh, hx, w.1, w.2)) rfl hp (fun hc5 hp => ?_) (fun hc5 hp => ?_)
      · refine am_Rn.run am_h181 1 (F' := (55, [(0, .ref 83)], [.int 1])) (S' := (am_sh, hx, w.1, w.2)) rfl ?_
        subst hp
        exact am_Rn.ret am_h181 rfl
      · refine am_Rn.run am_h181 7 (F' := (70, [(0, .ref 83)], [.int 101, .int 99, .int 97, .int 108, .int 112, .long (w.2 83 12)])) (S' := (am_sh, hx, w.1, w.2)) rfl ?_
        obtain ⟨r6, h_r6, hp⟩ := am_b_e hp
        refine am_Rn.call am_h181 (mj := 173) (As := [.int 112, .int 108, .int 97, .int 99, .int 101]) (F' := (73, [(0, .ref 83)], [.long (w.2 83 12)])) (M' := am_m173) (r := some (.long r6)) (S1 := (am_sh, hx, w.1, w.2)) rfl am_h173 rfl (by subst h_r6; exact (ezM_w5 (by omega) 112 108 97 99 101)) ?_
        refine am_Rn.run am_h181 1 (F' := (74, [(0, .ref 83)], [.int (lg_cmp (w.2 83 12) r6)])) (S' := (am_sh, hx, w.1, w.2)) rfl ?_
        refine am_Rn.ite am_h181 (c := (lg_cmp (w.2 83 12) r6) = 0) (t := 77) (f := 79) (lv := [(0, .ref 83)]) (st := []) (S' := (am_sh, hx, w.1, w.2)) rfl hp (fun hc7 hp => ?_) (fun hc7 hp => ?_)
        · refine am_Rn.run am_h181 1 (F' := (78, [(0, .ref 83)], [.int 2])) (S' := (am_sh, hx, w.1, w.2)) rfl ?_
          subst hp
          exact am_Rn.ret am_h181 rfl
        · refine am_Rn.run am_h181 6 (F' := (91, [(0, .ref 83)], [.int 116, .int 97, .int 101, .int 98, .long (w.2 83 12)])) (S' := (am_sh, hx, w.1, w.2)) rfl ?_
          obtain ⟨r8, h_r8, hp⟩ := am_b_e hp
          refine am_Rn.call am_h181 (mj := 174) (As := [.int 98, .int 101, .int 97, .int 116]) (F' := (94, [(0, .ref 83)], [.long (w.2 83 12)])) (M' := am_m174) (r := some (.long r8)) (S1 := (am_sh, hx, w.1, w.2)) rfl am_h174 rfl (by subst h_r8; exact (ezM_w4 (by omega) 98 101 97 116)) ?_
          refine am_Rn.run am_h181 1 (F' := (95, [(0, .ref 83)], [.int (lg_cmp (w.2 83 12) r8)])) (S' := (am_sh, hx, w.1, w.2)) rfl ?_
          refine am_Rn.ite am_h181 (c := (lg_cmp (w.2 83 12) r8) = 0) (t := 98) (f := 100) (lv := [(0, .ref 83)]) (st := []) (S' := (am_sh, hx, w.1, w.2)) rfl hp (fun hc9 hp => ?_) (fun hc9 hp => ?_)
          · refine am_Rn.run am_h181 1 (F' := (99, [(0, .ref 83)], [.int 3])) (S' := (am_sh, hx, w.1, w.2)) rfl ?_
            subst hp
            exact am_Rn.ret am_h181 rfl
          · refine am_Rn.run am_h181 5 (F' := (110, [(0, .ref 83)], [.int 111, .int 104, .int 119, .long (w.2 83 12)])) (S' := (am_sh, hx, w.1, w.2)) rfl ?_
            obtain ⟨r10, h_r10, hp⟩ := am_b_e hp
            refine am_Rn.call am_h181 (mj := 172) (As := [.int 119, .int 104, .int 111]) (F' := (113, [(0, .ref 83)], [.long (w.2 83 12)])) (M' := am_m172) (r := some (.long r10)) (S1 := (am_sh, hx, w.1, w.2)) rfl am_h172 rfl (by subst h_r10; exact (ezM_w3 (by omega) 119 104 111)) ?_
            refine am_Rn.run am_h181 1 (F' := (114, [(0, .ref 83)], [.int (lg_cmp (w.2 83 12) r10)])) (S' := (am_sh, hx, w.1, w.2)) rfl ?_
            refine am_Rn.ite am_h181 (c := (lg_cmp (w.2 83 12) r10) = 0) (t := 117) (f := 119) (lv := [(0, .ref 83)]) (st := []) (S' := (am_sh, hx, w.1, w.2)) rfl hp (fun hc11 hp => ?_) (fun hc11 hp => ?_)
            · refine am_Rn.run am_h181 1 (F' := (118, [(0, .ref 83)], [.int 4])) (S' := (am_sh, hx, w.1, w.2)) rfl ?_
              subst hp
              exact am_Rn.ret am_h181 rfl
            · refine am_Rn.run am_h181 7 (F' := (133, [(0, .ref 83)], [.int 116, .int 104, .int 103, .int 105, .int 114, .long (w.2 83 12)])) (S' := (am_sh, hx, w.1, w.2)) rfl ?_
              obtain ⟨r12, h_r12, hp⟩ := am_b_e hp
              refine am_Rn.call am_h181 (mj := 173) (As := [.int 114, .int 105, .int 103, .int 104, .int 116]) (F' := (136, [(0, .ref 83)], [.long (w.2 83 12)])) (M' := am_m173) (r := some (.long r12)) (S1 := (am_sh, hx, w.1, w.2)) rfl am_h173 rfl (by subst h_r12; exact (ezM_w5 (by omega) 114 105 103 104 116)) ?_
              refine am_Rn.run am_h181 1 (F' := (137, [(0, .ref 83)], [.int (lg_cmp (w.2 83 12) r12)])) (S' := (am_sh, hx, w.1, w.2)) rfl ?_
              refine am_Rn.ite am_h181 (c := (lg_cmp (w.2 83 12) r12) = 0) (t := 140) (f := 142) (lv := [(0, .ref 83)]) (st := []) (S' := (am_sh, hx, w.1, w.2)) rfl hp (fun hc13 hp => ?_) (fun hc13 hp => ?_)
              · refine am_Rn.run am_h181 1 (F' := (141, [(0, .ref 83)], [.int 5])) (S' := (am_sh, hx, w.1, w.2)) rfl ?_
                subst hp
                exact am_Rn.ret am_h181 rfl
              · refine am_Rn.run am_h181 6 (F' := (154, [(0, .ref 83)], [.int 109, .int 111, .int 114, .int 102, .long (w.2 83 12)])) (S' := (am_sh, hx, w.1, w.2)) rfl ?_
                obtain ⟨r14, h_r14, hp⟩ := am_b_e hp
                refine am_Rn.call am_h181 (mj := 174) (As := [.int 102, .int 114, .int 111, .int 109]) (F' := (157, [(0, .ref 83)], [.long (w.2 83 12)])) (M' := am_m174) (r := some (.long r14)) (S1 := (am_sh, hx, w.1, w.2)) rfl am_h174 rfl (by subst h_r14; exact (ezM_w4 (by omega) 102 114 111 109)) ?_
                refine am_Rn.run am_h181 1 (F' := (158, [(0, .ref 83)], [.int (lg_cmp (w.2 83 12) r14)])) (S' := (am_sh, hx, w.1, w.2)) rfl ?_
                refine am_Rn.ite am_h181 (c := (lg_cmp (w.2 83 12) r14) = 0) (t := 161) (f := 164) (lv := [(0, .ref 83)]) (st := []) (S' := (am_sh, hx, w.1, w.2)) rfl hp (fun hc15 hp => ?_) (fun hc15 hp => ?_)
                · refine am_Rn.run am_h181 1 (F' := (163, [(0, .ref 83)], [.int 6])) (S' := (am_sh, hx, w.1, w.2)) rfl ?_
                  subst hp
                  exact am_Rn.ret am_h181 rfl
                · refine am_Rn.run am_h181 4 (F' := (172, [(0, .ref 83)], [.int (lg_cmp (w.2 83 12) 29807)])) (S' := (am_sh, hx, w.1, w.2)) rfl ?_
                  refine am_Rn.ite am_h181 (c := (lg_cmp (w.2 83 12) 29807) = 0) (t := 175) (f := 178) (lv := [(0, .ref 83)]) (st := []) (S' := (am_sh, hx, w.1, w.2)) rfl hp (fun hc16 hp => ?_) (fun hc16 hp => ?_)
                  · refine am_Rn.run am_h181 1 (F' := (177, [(0, .ref 83)], [.int 7])) (S' := (am_sh, hx, w.1, w.2)) rfl ?_
                    subst hp
                    exact am_Rn.ret am_h181 rfl
                  · refine am_Rn.run am_h181 6 (F' := (190, [(0, .ref 83)], [.int 116, .int 97, .int 101, .int 115, .long (w.2 83 12)])) (S' := (am_sh, hx, w.1, w.2)) rfl ?_
                    obtain ⟨r17, h_r17, hp⟩ := am_b_e hp
                    refine am_Rn.call am_h181 (mj := 174) (As := [.int 115, .int 101, .int 97, .int 116]) (F' := (193, [(0, .ref 83)], [.long (w.2 83 12)])) (M' := am_m174) (r := some (.long r17)) (S1 := (am_sh, hx, w.1, w.2)) rfl am_h174 rfl (by subst h_r17; exact (ezM_w4 (by omega) 115 101 97 116)) ?_
                    refine am_Rn.run am_h181 1 (F' := (194, [(0, .ref 83)], [.int (lg_cmp (w.2 83 12) r17)])) (S' := (am_sh, hx, w.1, w.2)) rfl ?_
                    refine am_Rn.ite am_h181 (c := (lg_cmp (w.2 83 12) r17) = 0) (t := 197) (f := 202) (lv := [(0, .ref 83)]) (st := []) (S' := (am_sh, hx, w.1, w.2)) rfl hp (fun hc18 hp => ?_) (fun hc18 hp => ?_)
                    · refine am_Rn.run am_h181 2 (F' := (227, [(0, .ref 83)], [.int 8])) (S' := (am_sh, hx, w.1, w.2)) rfl ?_
                      subst hp
                      exact am_Rn.ret am_h181 rfl
                    · refine am_Rn.run am_h181 6 (F' := (214, [(0, .ref 83)], [.int 121, .int 110, .int 97, .int 109, .long (w.2 83 12)])) (S' := (am_sh, hx, w.1, w.2)) rfl ?_
                      obtain ⟨r19, h_r19, hp⟩ := am_b_e hp
                      refine am_Rn.call am_h181 (mj := 174) (As := [.int 109, .int 97, .int 110, .int 121]) (F' := (217, [(0, .ref 83)], [.long (w.2 83 12)])) (M' := am_m174) (r := some (.long r19)) (S1 := (am_sh, hx, w.1, w.2)) rfl am_h174 rfl (by subst h_r19; exact (ezM_w4 (by omega) 109 97 110 121)) ?_
                      refine am_Rn.run am_h181 1 (F' := (218, [(0, .ref 83)], [.int (lg_cmp (w.2 83 12) r19)])) (S' := (am_sh, hx, w.1, w.2)) rfl ?_
                      refine am_Rn.ite am_h181 (c := (lg_cmp (w.2 83 12) r19) = 0) (t := 221) (f := 226) (lv := [(0, .ref 83)]) (st := []) (S' := (am_sh, hx, w.1, w.2)) rfl hp (fun hc20 hp => ?_) (fun hc20 hp => ?_)
                      · refine am_Rn.run am_h181 2 (F' := (227, [(0, .ref 83)], [.int 9])) (S' := (am_sh, hx, w.1, w.2)) rfl ?_
                        subst hp
                        exact am_Rn.ret am_h181 rfl
                      · refine am_Rn.run am_h181 1 (F' := (227, [(0, .ref 83)], [.int (-1)])) (S' := (am_sh, hx, w.1, w.2)) rfl ?_
                        subst hp
                        exact am_Rn.ret am_h181 rfl
  · refine am_Rn.run am_h181 1 (F' := (9, [(0, .ref 83)], [.int (-1)])) (S' := (am_sh, hx, w.1, w.2)) rfl ?_
    subst hp
    exact am_Rn.ret am_h181 rfl
/-- SixHandsModel.push(I)V [83] -/
def zM_push (v1 : Int32) (w : zHM) : Option (zHM) := am_ix 160 (w.1 83 18) (am_b ((va_up w.1 88 (upd (w.1 88) ((w.1 83 18).toNatClampNeg) v1), w.2)) fun w2 => am_b ((va_up w2.1 83 (upd (w2.1 83) 18 ((w2.1 83 18) + 1)), w2.2)) fun w3 => some w3)
theorem ezM_push {d : Nat} (hd : 0 ≤ d) (v1 : Int32) (w : zHM) (R : zHM) (hp : zM_push v1 w = some R) : am_Ev 83 Xs am_P d 178 [.ref 83, .int v1] (am_sh, hx, w.1, w.2) (none, (am_sh, hx, R.1, R.2)) := by
  unfold zM_push at hp
  show am_Rn 83 Xs am_P _ 178 (0, [(0, .ref 83), (1, .int v1)], []) _ _
  refine am_Rn.run am_h178 5 (F' := (9, [(0, .ref 83), (1, .int v1)], [.int v1, .int (w.1 83 18), .ref 88])) (S' := (am_sh, hx, w.1, w.2)) rfl ?_
  obtain ⟨hn1, hp⟩ := am_ix_e hp
  obtain ⟨w2, h_w2, hp⟩ := am_b_e hp
  refine am_Rn.stepG am_h178 (c := (w.1 83 18) < 0 ∨ 160 ≤ (w.1 83 18).toNatClampNeg) (F' := (10, [(0, .ref 83), (1, .int v1)], [])) (S' := (am_sh, hx, w2.1, w2.2)) (by subst h_w2; rfl) hn1 ?_
  obtain ⟨w3, h_w3, hp⟩ := am_b_e hp
  refine am_Rn.run am_h178 6 (F' := (20, [(0, .ref 83), (1, .int v1)], [])) (S' := (am_sh, hx, w3.1, w3.2)) (by subst h_w3; rfl) ?_
  cases hp
  exact am_Rn.ret am_h178 rfl
/-- SixHandsModel.isBarred(I)Z [83] -/
def zM_isBarred (v1 : Int32) (w : zHM) : Int32 := if 3 < v1 then (if ((v1 / 2) - 2) = (w.1 83 21) then (0) else (1)) else (0)
theorem ezM_isBarred {d : Nat} (hd : 0 ≤ d) (v1 : Int32) (w : zHM) : am_Ev 83 Xs am_P d 182 [.ref 83, .int v1] (am_sh, hx, w.1, w.2) (some (.int ((zM_isBarred v1 w))), (am_sh, hx, w.1, w.2)) := by
  obtain ⟨R, hp⟩ : ∃ R, zM_isBarred v1 w = R := ⟨_, rfl⟩
  rw [hp]
  unfold zM_isBarred at hp
  show am_Rn 83 Xs am_P _ 182 (0, [(0, .ref 83), (1, .int v1)], []) _ _
  refine am_Rn.run am_h182 2 (F' := (2, [(0, .ref 83), (1, .int v1)], [.int 3, .int v1])) (S' := (am_sh, hx, w.1, w.2)) rfl ?_
  refine am_Rn.ite am_h182 (c := 3 < v1) (t := 5) (f := 21) (lv := [(0, .ref 83), (1, .int v1)]) (st := []) (S' := (am_sh, hx, w.1, w.2)) rfl hp (fun hc1 hp => ?_) (fun hc1 hp => ?_)
  · refine am_Rn.run am_h182 7 (F' := (14, [(0, .ref 83), (1, .int v1)], [.int (w.1 83 21), .int ((v1 / 2) - 2)])) (S' := (am_sh, hx, w.1, w.2)) rfl ?_
    refine am_Rn.ite am_h182 (c := ((v1 / 2) - 2) = (w.1 83 21)) (t := 21) (f := 17) (lv := [(0, .ref 83), (1, .int v1)]) (st := []) (S' := (am_sh, hx, w.1, w.2)) rfl hp (fun hc2 hp => ?_) (fun hc2 hp => ?_)
    · refine am_Rn.run am_h182 1 (F' := (22, [(0, .ref 83), (1, .int v1)], [.int 0])) (S' := (am_sh, hx, w.1, w.2)) rfl ?_
      subst hp
      exact am_Rn.ret am_h182 rfl
    · refine am_Rn.run am_h182 2 (F' := (22, [(0, .ref 83), (1, .int v1)], [.int 1])) (S' := (am_sh, hx, w.1, w.2)) rfl ?_
      subst hp
      exact am_Rn.ret am_h182 rfl
  · refine am_Rn.run am_h182 1 (F' := (22, [(0, .ref 83), (1, .int v1)], [.int 0])) (S' := (am_sh, hx, w.1, w.2)) rfl ?_
    subst hp
    exact am_Rn.ret am_h182 rfl
/-- SixHandsModel.beginOne()I [83] -/
def zM_beginOne_J106 (s0 : Int32) (w : zHM) : Option (Int32 × zHM) := if s0 = 0 then (some ((1, w))) else (if (w.1 83 19) = 8 then (some ((3, w))) else (am_b ((va_up w.1 83 (upd (w.1 83) 19 ((w.1 83 19) + 1)), w.2)) fun w11 => (zM_push s0 w11).bind fun r12 => (zM_nextToken r12).bind fun r13 => some ((0, r13))))
theorem ezM_beginOne_J106 {d : Nat} (hd : 4 ≤ d) (R : Int32 × zHM) (s0 : Int32) (w : zHM) (hp : zM_beginOne_J106 s0 w = some R) : am_Rn 83 Xs am_P d 183 (106, [(0, .ref 83)], [.int s0]) (am_sh, hx, w.1, w.2) (some (.int R.1), (am_sh, hx, R.2.1, R.2.2)) := by
  obtain ⟨d, rfl⟩ : ∃ k, d = k + 1 := ⟨d - 1, by omega⟩
  unfold zM_beginOne_J106 at hp
  refine am_Rn.run am_h183 2 (F' := (108, [(1, .int s0), (0, .ref 83)], [.int s0])) (S' := (am_sh, hx, w.1, w.2)) rfl ?_
  refine am_Rn.ite am_h183 (c := s0 = 0) (t := 111) (f := 113) (lv := [(1, .int s0), (0, .ref 83)]) (st := []) (S' := (am_sh, hx, w.1, w.2)) rfl hp (fun hc9 hp => ?_) (fun hc9 hp => ?_)
  · refine am_Rn.run am_h183 1 (F' := (112, [(1, .int s0), (0, .ref 83)], [.int 1])) (S' := (am_sh, hx, w.1, w.2)) rfl ?_
    cases hp
    exact am_Rn.ret am_h183 rfl
  · refine am_Rn.run am_h183 3 (F' := (119, [(1, .int s0), (0, .ref 83)], [.int 8, .int (w.1 83 19)])) (S' := (am_sh, hx, w.1, w.2)) rfl ?_
    refine am_Rn.ite am_h183 (c := (w.1 83 19) = 8) (t := 122) (f := 124) (lv := [(1, .int s0), (0, .ref 83)]) (st := []) (S' := (am_sh, hx, w.1, w.2)) rfl hp (fun hc10 hp => ?_) (fun hc10 hp => ?_)
    · refine am_Rn.run am_h183 1 (F' := (123, [(1, .int s0), (0, .ref 83)], [.int 3])) (S' := (am_sh, hx, w.1, w.2)) rfl ?_
      cases hp
      exact am_Rn.ret am_h183 rfl
    · obtain ⟨w11, h_w11, hp⟩ := am_b_e hp
      refine am_Rn.run am_h183 8 (F' := (136, [(1, .int s0), (0, .ref 83)], [.int s0, .ref 83])) (S' := (am_sh, hx, w11.1, w11.2)) (by subst h_w11; rfl) ?_
      obtain ⟨r12, h_r12, hp⟩ := am_bind hp
      refine am_Rn.call am_h183 (mj := 178) (As := [.ref 83, .int s0]) (F' := (139, [(1, .int s0), (0, .ref 83)], [])) (M' := am_m178) (r := none) (S1 := (am_sh, hx, r12.1, r12.2)) rfl am_h178 rfl (ezM_push (by omega) s0 w11 _ h_r12) ?_
      refine am_Rn.run am_h183 1 (F' := (140, [(1, .int s0), (0, .ref 83)], [.ref 83])) (S' := (am_sh, hx, r12.1, r12.2)) rfl ?_
      obtain ⟨r13, h_r13, hp⟩ := am_bind hp
      refine am_Rn.call am_h183 (mj := 171) (As := [.ref 83]) (F' := (143, [(1, .int s0), (0, .ref 83)], [])) (M' := am_m171) (r := none) (S1 := (am_sh, hx, r13.1, r13.2)) rfl am_h171 rfl (ezM_nextToken (by omega) r12 _ h_r13) ?_
      refine am_Rn.run am_h183 1 (F' := (144, [(1, .int s0), (0, .ref 83)], [.int 0])) (S' := (am_sh, hx, r13.1, r13.2)) rfl ?_
      cases hp
      exact am_Rn.ret am_h183 rfl
def zM_beginOne (w : zHM) : Option (Int32 × zHM) := if (w.1 83 10) = 1 then (if 9999 < (w.1 83 11) then (some ((2, w))) else ((zM_emit 0 (w.1 83 11) w).bind fun r3 => (zM_nextToken r3).bind fun r4 => (zM_whole r4).bind fun r5 => some ((0, r5)))) else (am_b (zM_nameOf w) fun r6 => if r6 < 0 then (if (w.1 83 10) = 40 then (zM_beginOne_J106 40 w) else (if (w.1 83 10) = 45 then (zM_beginOne_J106 2 w) else (zM_beginOne_J106 0 w))) else (am_b (zM_nameOf w) fun r15 => am_b (zM_isBarred r15 w) fun r16 => if r16 = 0 then (am_b (zM_nameOf w) fun r18 => (zM_emit 1 r18 w).bind fun r19 => (zM_nextToken r19).bind fun r20 => (zM_whole r20).bind fun r21 => some ((0, r21))) else (some ((5, w)))))
theorem ezM_beginOne {d : Nat} (hd : 4 ≤ d) (w : zHM) (R : Int32 × zHM) (hp : zM_beginOne w = some R) : am_Ev 83 Xs am_P d 183 [.ref 83] (am_sh, hx, w.1, w.2) (some (.int R.1), (am_sh, hx, R.2.1, R.2.2)) := by
  obtain ⟨d, rfl⟩ : ∃ k, d = k + 1 := ⟨d - 1, by omega⟩
  unfold zM_beginOne at hp
  show am_Rn 83 Xs am_P _ 183 (0, [(0, .ref 83)], []) _ _
  refine am_Rn.run am_h183 3 (F' := (5, [(0, .ref 83)], [.int 1, .int (w.1 83 10)])) (S' := (am_sh, hx, w.1, w.2)) rfl ?_
  refine am_Rn.ite am_h183 (c := (w.1 83 10) = 1) (t := 8) (f := 39) (lv := [(0, .ref 83)]) (st := []) (S' := (am_sh, hx, w.1, w.2)) rfl hp (fun hc1 hp => ?_) (fun hc1 hp => ?_)
  · refine am_Rn.run am_h183 3 (F' := (15, [(0, .ref 83)], [.int 9999, .int (w.1 83 11)])) (S' := (am_sh, hx, w.1, w.2)) rfl ?_
    refine am_Rn.ite am_h183 (c := 9999 < (w.1 83 11)) (t := 18) (f := 20) (lv := [(0, .ref 83)]) (st := []) (S' := (am_sh, hx, w.1, w.2)) rfl hp (fun hc2 hp => ?_) (fun hc2 hp => ?_)
    · refine am_Rn.run am_h183 1 (F' := (19, [(0, .ref 83)], [.int 2])) (S' := (am_sh, hx, w.1, w.2)) rfl ?_
      cases hp
      exact am_Rn.ret am_h183 rfl
    · refine am_Rn.run am_h183 4 (F' := (26, [(0, .ref 83)], [.int (w.1 83 11), .int 0, .ref 83])) (S' := (am_sh, hx, w.1, w.2)) rfl ?_
      obtain ⟨r3, h_r3, hp⟩ := am_bind hp
      refine am_Rn.call am_h183 (mj := 177) (As := [.ref 83, .int 0, .int (w.1 83 11)]) (F' := (29, [(0, .ref 83)], [])) (M' := am_m177) (r := none) (S1 := (am_sh, hx, r3.1, r3.2)) rfl am_h177 rfl (ezM_emit (by omega) 0 (w.1 83 11) w _ h_r3) ?_
      refine am_Rn.run am_h183 1 (F' := (30, [(0, .ref 83)], [.ref 83])) (S' := (am_sh, hx, r3.1, r3.2)) rfl ?_
      obtain ⟨r4, h_r4, hp⟩ := am_bind hp
      refine am_Rn.call am_h183 (mj := 171) (As := [.ref 83]) (F' := (33, [(0, .ref 83)], [])) (M' := am_m171) (r := none) (S1 := (am_sh, hx, r4.1, r4.2)) rfl am_h171 rfl (ezM_nextToken (by omega) r3 _ h_r4) ?_
      refine am_Rn.run am_h183 1 (F' := (34, [(0, .ref 83)], [.ref 83])) (S' := (am_sh, hx, r4.1, r4.2)) rfl ?_
      obtain ⟨r5, h_r5, hp⟩ := am_bind hp
      refine am_Rn.call am_h183 (mj := 179) (As := [.ref 83]) (F' := (37, [(0, .ref 83)], [])) (M' := am_m179) (r := none) (S1 := (am_sh, hx, r5.1, r5.2)) rfl am_h179 rfl (ezM_whole (by omega) r4 _ h_r5) ?_
      refine am_Rn.run am_h183 1 (F' := (38, [(0, .ref 83)], [.int 0])) (S' := (am_sh, hx, r5.1, r5.2)) rfl ?_
      cases hp
      exact am_Rn.ret am_h183 rfl
  · refine am_Rn.run am_h183 1 (F' := (40, [(0, .ref 83)], [.ref 83])) (S' := (am_sh, hx, w.1, w.2)) rfl ?_
    obtain ⟨r6, h_r6, hp⟩ := am_b_e hp
    refine am_Rn.call am_h183 (mj := 181) (As := [.ref 83]) (F' := (43, [(0, .ref 83)], [])) (M' := am_m181) (r := some (.int r6)) (S1 := (am_sh, hx, w.1, w.2)) rfl am_h181 rfl (by subst h_r6; exact (ezM_nameOf (by omega) w)) ?_
    refine am_Rn.ite am_h183 (c := r6 < 0) (t := 78) (f := 46) (lv := [(0, .ref 83)]) (st := []) (S' := (am_sh, hx, w.1, w.2)) rfl hp (fun hc7 hp => ?_) (fun hc7 hp => ?_)
    · refine am_Rn.run am_h183 3 (F' := (84, [(0, .ref 83)], [.int 40, .int (w.1 83 10)])) (S' := (am_sh, hx, w.1, w.2)) rfl ?_
      refine am_Rn.ite am_h183 (c := (w.1 83 10) = 40) (t := 87) (f := 92) (lv := [(0, .ref 83)]) (st := []) (S' := (am_sh, hx, w.1, w.2)) rfl hp (fun hc8 hp => ?_) (fun hc8 hp => ?_)
      · refine am_Rn.run am_h183 2 (F' := (106, [(0, .ref 83)], [.int 40])) (S' := (am_sh, hx, w.1, w.2)) rfl ?_
        exact ezM_beginOne_J106 hd R 40 w hp
      · refine am_Rn.run am_h183 3 (F' := (98, [(0, .ref 83)], [.int 45, .int (w.1 83 10)])) (S' := (am_sh, hx, w.1, w.2)) rfl ?_
        refine am_Rn.ite am_h183 (c := (w.1 83 10) = 45) (t := 101) (f := 105) (lv := [(0, .ref 83)]) (st := []) (S' := (am_sh, hx, w.1, w.2)) rfl hp (fun hc14 hp => ?_) (fun hc14 hp => ?_)
        · refine am_Rn.run am_h183 2 (F' := (106, [(0, .ref 83)], [.int 2])) (S' := (am_sh, hx, w.1, w.2)) rfl ?_
          exact ezM_beginOne_J106 hd R 2 w hp
        · refine am_Rn.run am_h183 1 (F' := (106, [(0, .ref 83)], [.int 0])) (S' := (am_sh, hx, w.1, w.2)) rfl ?_
          exact ezM_beginOne_J106 hd R 0 w hp
    · refine am_Rn.run am_h183 2 (F' := (48, [(0, .ref 83)], [.ref 83, .ref 83])) (S' := (am_sh, hx, w.1, w.2)) rfl ?_
      obtain ⟨r15, h_r15, hp⟩ := am_b_e hp
      refine am_Rn.call am_h183 (mj := 181) (As := [.ref 83]) (F' := (51, [(0, .ref 83)], [.ref 83])) (M' := am_m181) (r := some (.int r15)) (S1 := (am_sh, hx, w.1, w.2)) rfl am_h181 rfl (by subst h_r15; exact (ezM_nameOf (by omega) w)) ?_
      obtain ⟨r16, h_r16, hp⟩ := am_b_e hp
      refine am_Rn.call am_h183 (mj := 182) (As := [.ref 83, .int r15]) (F' := (54, [(0, .ref 83)], [])) (M' := am_m182) (r := some (.int r16)) (S1 := (am_sh, hx, w.1, w.2)) rfl am_h182 rfl (by subst h_r16; exact (ezM_isBarred (by omega) r15 w)) ?_
      refine am_Rn.ite am_h183 (c := r16 = 0) (t := 59) (f := 57) (lv := [(0, .ref 83)]) (st := []) (S' := (am_sh, hx, w.1, w.2)) rfl hp (fun hc17 hp => ?_) (fun hc17 hp => ?_)
      · refine am_Rn.run am_h183 3 (F' := (62, [(0, .ref 83)], [.ref 83, .int 1, .ref 83])) (S' := (am_sh, hx, w.1, w.2)) rfl ?_
        obtain ⟨r18, h_r18, hp⟩ := am_b_e hp
        refine am_Rn.call am_h183 (mj := 181) (As := [.ref 83]) (F' := (65, [(0, .ref 83)], [.int 1, .ref 83])) (M' := am_m181) (r := some (.int r18)) (S1 := (am_sh, hx, w.1, w.2)) rfl am_h181 rfl (by subst h_r18; exact (ezM_nameOf (by omega) w)) ?_
        obtain ⟨r19, h_r19, hp⟩ := am_bind hp
        refine am_Rn.call am_h183 (mj := 177) (As := [.ref 83, .int 1, .int r18]) (F' := (68, [(0, .ref 83)], [])) (M' := am_m177) (r := none) (S1 := (am_sh, hx, r19.1, r19.2)) rfl am_h177 rfl (ezM_emit (by omega) 1 r18 w _ h_r19) ?_
        refine am_Rn.run am_h183 1 (F' := (69, [(0, .ref 83)], [.ref 83])) (S' := (am_sh, hx, r19.1, r19.2)) rfl ?_
        obtain ⟨r20, h_r20, hp⟩ := am_bind hp
        refine am_Rn.call am_h183 (mj := 171) (As := [.ref 83]) (F' := (72, [(0, .ref 83)], [])) (M' := am_m171) (r := none) (S1 := (am_sh, hx, r20.1, r20.2)) rfl am_h171 rfl (ezM_nextToken (by omega) r19 _ h_r20) ?_
        refine am_Rn.run am_h183 1 (F' := (73, [(0, .ref 83)], [.ref 83])) (S' := (am_sh, hx, r20.1, r20.2)) rfl ?_
        obtain ⟨r21, h_r21, hp⟩ := am_bind hp
        refine am_Rn.call am_h183 (mj := 179) (As := [.ref 83]) (F' := (76, [(0, .ref 83)], [])) (M' := am_m179) (r := none) (S1 := (am_sh, hx, r21.1, r21.2)) rfl am_h179 rfl (ezM_whole (by omega) r20 _ h_r21) ?_
        refine am_Rn.run am_h183 1 (F' := (77, [(0, .ref 83)], [.int 0])) (S' := (am_sh, hx, r21.1, r21.2)) rfl ?_
        cases hp
        exact am_Rn.ret am_h183 rfl
      · refine am_Rn.run am_h183 1 (F' := (58, [(0, .ref 83)], [.int 5])) (S' := (am_sh, hx, w.1, w.2)) rfl ?_
        cases hp
        exact am_Rn.ret am_h183 rfl
end
