section
variable {Xs : Nat × (Nat → Int32)} {hx hm : Nat → Nat → Int32} {g : Nat → Nat → Int64} {S : am_S}
/-- SixHandsModel.playedBy(II)I [83] -/
def zM_playedBy_J116 (s1 : Int32) (s2 : Int32) (w : zHM) : Option (Int32 × zHM) := (zM_figure0 s1 s2 w).bind fun r10 => some ((r10.1, r10.2))
set_option maxRecDepth 20000 in
theorem ezM_playedBy_J116 {d : Nat} (hd : 4 ≤ d) (R : Int32 × zHM) (s1 : Int32) (s2 : Int32) (w : zHM) (hp : zM_playedBy_J116 s1 s2 w = some R) : am_Rn 83 Xs am_P d 193 (116, [], [.int s2, .int s1, .ref 83]) (am_sh, hx, w.1, w.2) (some (.int R.1), (am_sh, hx, R.2.1, R.2.2)) := by
  obtain ⟨d, rfl⟩ : ∃ k, d = k + 1 := ⟨d - 1, by omega⟩
  unfold zM_playedBy_J116 at hp
  obtain ⟨r10, h_r10, hp⟩ := am_bind hp
  refine am_Rn.call am_h193 (mj := 192) (As := [.ref 83, .int s1, .int s2]) (F' := (119, [], [])) (M' := am_m192) (r := some (.int r10.1)) (S1 := (am_sh, hx, r10.2.1, r10.2.2)) rfl am_h192 rfl (ezM_figure0 (by omega) s1 s2 w _ h_r10) ?_
  cases hp
  exact am_Rn.ret am_h193 rfl
def zM_playedBy_J87 (v1 : Int32) (v2 : Int32) (s0 : Int32) (w : zHM) : Option (Int32 × zHM) := if s0 = 0 then (some ((1, w))) else ((zM_nextToken w).bind fun r8 => if v2 = 6 then (zM_playedBy_J116 (v1 + 2) 5 r8) else (zM_playedBy_J116 (v1 + 2) 7 r8))
set_option maxRecDepth 20000 in
theorem ezM_playedBy_J87 {d : Nat} (hd : 4 ≤ d) (R : Int32 × zHM) (v1 : Int32) (v2 : Int32) (s0 : Int32) (w : zHM) (hp : zM_playedBy_J87 v1 v2 s0 w = some R) : am_Rn 83 Xs am_P d 193 (87, [(0, .ref 83), (1, .int v1), (2, .int v2)], [.int s0]) (am_sh, hx, w.1, w.2) (some (.int R.1), (am_sh, hx, R.2.1, R.2.2)) := by
  obtain ⟨d, rfl⟩ : ∃ k, d = k + 1 := ⟨d - 1, by omega⟩
  unfold zM_playedBy_J87 at hp
  refine am_Rn.run am_h193 2 (F' := (91, [(4, .int s0), (0, .ref 83), (1, .int v1), (2, .int v2)], [.int s0])) (S' := (am_sh, hx, w.1, w.2)) rfl ?_
  refine am_Rn.ite am_h193 (c := s0 = 0) (t := 94) (f := 96) (lv := [(4, .int s0), (0, .ref 83), (1, .int v1), (2, .int v2)]) (st := []) (S' := (am_sh, hx, w.1, w.2)) rfl hp (fun hc7 hp => ?_) (fun hc7 hp => ?_)
  · refine am_Rn.run am_h193 1 (F' := (95, [(4, .int s0), (0, .ref 83), (1, .int v1), (2, .int v2)], [.int 1])) (S' := (am_sh, hx, w.1, w.2)) rfl ?_
    cases hp
    exact am_Rn.ret am_h193 rfl
  · refine am_Rn.run am_h193 1 (F' := (97, [(4, .int s0), (0, .ref 83), (1, .int v1), (2, .int v2)], [.ref 83])) (S' := (am_sh, hx, w.1, w.2)) rfl ?_
    obtain ⟨r8, h_r8, hp⟩ := am_bind hp
    refine am_Rn.call am_h193 (mj := 171) (As := [.ref 83]) (F' := (100, [(4, .int s0), (0, .ref 83), (1, .int v1), (2, .int v2)], [])) (M' := am_m171) (r := none) (S1 := (am_sh, hx, r8.1, r8.2)) rfl am_h171 rfl (ezM_nextToken (by omega) w _ h_r8) ?_
    refine am_Rn.run am_h193 6 (F' := (107, [(4, .int s0), (0, .ref 83), (1, .int v1), (2, .int v2)], [.int 6, .int v2, .int (v1 + 2), .ref 83])) (S' := (am_sh, hx, r8.1, r8.2)) rfl ?_
    refine am_Rn.ite am_h193 (c := v2 = 6) (t := 110) (f := 114) (lv := [(4, .int s0), (0, .ref 83), (1, .int v1), (2, .int v2)]) (st := [.int (v1 + 2), .ref 83]) (S' := (am_sh, hx, r8.1, r8.2)) rfl hp (fun hc9 hp => ?_) (fun hc9 hp => ?_)
    · refine am_Rn.run am_h193 2 (F' := (116, [(4, .int s0), (0, .ref 83), (1, .int v1), (2, .int v2)], [.int 5, .int (v1 + 2), .ref 83])) (S' := (am_sh, hx, r8.1, r8.2)) rfl ?_
      refine am_Rn.sub [] rfl rfl ?_
      exact ezM_playedBy_J116 hd R (v1 + 2) 5 r8 hp
    · refine am_Rn.run am_h193 1 (F' := (116, [(4, .int s0), (0, .ref 83), (1, .int v1), (2, .int v2)], [.int 7, .int (v1 + 2), .ref 83])) (S' := (am_sh, hx, r8.1, r8.2)) rfl ?_
      refine am_Rn.sub [] rfl rfl ?_
      exact ezM_playedBy_J116 hd R (v1 + 2) 7 r8 hp
def zM_playedBy_J86 (v1 : Int32) (v2 : Int32) (w : zHM) : Option (Int32 × zHM) := zM_playedBy_J87 v1 v2 0 w
set_option maxRecDepth 20000 in
theorem ezM_playedBy_J86 {d : Nat} (hd : 4 ≤ d) (R : Int32 × zHM) (v1 : Int32) (v2 : Int32) (w : zHM) (hp : zM_playedBy_J86 v1 v2 w = some R) : am_Rn 83 Xs am_P d 193 (86, [(0, .ref 83), (1, .int v1), (2, .int v2)], []) (am_sh, hx, w.1, w.2) (some (.int R.1), (am_sh, hx, R.2.1, R.2.2)) := by
  obtain ⟨d, rfl⟩ : ∃ k, d = k + 1 := ⟨d - 1, by omega⟩
  unfold zM_playedBy_J86 at hp
  refine am_Rn.run am_h193 1 (F' := (87, [(0, .ref 83), (1, .int v1), (2, .int v2)], [.int 0])) (S' := (am_sh, hx, w.1, w.2)) rfl ?_
  exact ezM_playedBy_J87 hd R v1 v2 0 w hp
def zM_playedBy_J77 (v1 : Int32) (v2 : Int32) (s0 : Int64) (s1 : Int32) (w : zHM) : Option (Int32 × zHM) := if (lg_cmp s0 (s1.toInt64)) = 0 then (zM_playedBy_J87 v1 v2 1 w) else (zM_playedBy_J86 v1 v2 w)
set_option maxRecDepth 20000 in
theorem ezM_playedBy_J77 {d : Nat} (hd : 4 ≤ d) (R : Int32 × zHM) (v1 : Int32) (v2 : Int32) (s0 : Int64) (s1 : Int32) (w : zHM) (hp : zM_playedBy_J77 v1 v2 s0 s1 w = some R) : am_Rn 83 Xs am_P d 193 (77, [(0, .ref 83), (1, .int v1), (2, .int v2)], [.int s1, .long s0]) (am_sh, hx, w.1, w.2) (some (.int R.1), (am_sh, hx, R.2.1, R.2.2)) := by
  obtain ⟨d, rfl⟩ : ∃ k, d = k + 1 := ⟨d - 1, by omega⟩
  unfold zM_playedBy_J77 at hp
  refine am_Rn.run am_h193 2 (F' := (79, [(0, .ref 83), (1, .int v1), (2, .int v2)], [.int (lg_cmp s0 (s1.toInt64))])) (S' := (am_sh, hx, w.1, w.2)) rfl ?_
  refine am_Rn.ite am_h193 (c := (lg_cmp s0 (s1.toInt64)) = 0) (t := 82) (f := 86) (lv := [(0, .ref 83), (1, .int v1), (2, .int v2)]) (st := []) (S' := (am_sh, hx, w.1, w.2)) rfl hp (fun hc13 hp => ?_) (fun hc13 hp => ?_)
  · refine am_Rn.run am_h193 2 (F' := (87, [(0, .ref 83), (1, .int v1), (2, .int v2)], [.int 1])) (S' := (am_sh, hx, w.1, w.2)) rfl ?_
    exact ezM_playedBy_J87 hd R v1 v2 1 w hp
  · exact ezM_playedBy_J86 hd R v1 v2 w hp
def zM_playedBy (v1 : Int32) (v2 : Int32) (w : zHM) : Option (Int32 × zHM) := if v2 = 7 then (some ((0, w))) else ((zM_figure0 (v1 + 1) 5 w).bind fun r2 => if r2.1 = 0 then (if v2 = 4 then (some ((r2.1, r2.2))) else (if v2 = 6 then (if (r2.2.1 83 10) = 44 then (zM_playedBy_J87 v1 v2 1 r2.2) else (zM_playedBy_J87 v1 v2 0 r2.2)) else (if (r2.2.1 83 10) = 2 then (if v2 = 3 then (zM_playedBy_J77 v1 v2 (r2.2.2 83 12) 24948 r2.2) else (zM_playedBy_J77 v1 v2 (r2.2.2 83 12) 29807 r2.2)) else (zM_playedBy_J86 v1 v2 r2.2)))) else (some ((r2.1, r2.2))))
set_option maxRecDepth 20000 in
theorem ezM_playedBy {d : Nat} (hd : 4 ≤ d) (v1 : Int32) (v2 : Int32) (w : zHM) (R : Int32 × zHM) (hp : zM_playedBy v1 v2 w = some R) : am_Ev 83 Xs am_P d 193 [.ref 83, .int v1, .int v2] (am_sh, hx, w.1, w.2) (some (.int R.1), (am_sh, hx, R.2.1, R.2.2)) := by
  obtain ⟨d, rfl⟩ : ∃ k, d = k + 1 := ⟨d - 1, by omega⟩
  unfold zM_playedBy at hp
  show am_Rn 83 Xs am_P _ 193 (0, [(0, .ref 83), (1, .int v1), (2, .int v2)], []) _ _
  refine am_Rn.run am_h193 2 (F' := (3, [(0, .ref 83), (1, .int v1), (2, .int v2)], [.int 7, .int v2])) (S' := (am_sh, hx, w.1, w.2)) rfl ?_
  refine am_Rn.ite am_h193 (c := v2 = 7) (t := 6) (f := 8) (lv := [(0, .ref 83), (1, .int v1), (2, .int v2)]) (st := []) (S' := (am_sh, hx, w.1, w.2)) rfl hp (fun hc1 hp => ?_) (fun hc1 hp => ?_)
  · refine am_Rn.run am_h193 1 (F' := (7, [(0, .ref 83), (1, .int v1), (2, .int v2)], [.int 0])) (S' := (am_sh, hx, w.1, w.2)) rfl ?_
    cases hp
    exact am_Rn.ret am_h193 rfl
  · refine am_Rn.run am_h193 5 (F' := (13, [(0, .ref 83), (1, .int v1), (2, .int v2)], [.int 5, .int (v1 + 1), .ref 83])) (S' := (am_sh, hx, w.1, w.2)) rfl ?_
    obtain ⟨r2, h_r2, hp⟩ := am_bind hp
    refine am_Rn.call am_h193 (mj := 192) (As := [.ref 83, .int (v1 + 1), .int 5]) (F' := (16, [(0, .ref 83), (1, .int v1), (2, .int v2)], [])) (M' := am_m192) (r := some (.int r2.1)) (S1 := (am_sh, hx, r2.2.1, r2.2.2)) rfl am_h192 rfl (ezM_figure0 (by omega) (v1 + 1) 5 w _ h_r2) ?_
    refine am_Rn.run am_h193 2 (F' := (18, [(3, .int r2.1), (0, .ref 83), (1, .int v1), (2, .int v2)], [.int r2.1])) (S' := (am_sh, hx, r2.2.1, r2.2.2)) rfl ?_
    refine am_Rn.ite am_h193 (c := r2.1 = 0) (t := 21) (f := 26) (lv := [(3, .int r2.1), (0, .ref 83), (1, .int v1), (2, .int v2)]) (st := []) (S' := (am_sh, hx, r2.2.1, r2.2.2)) rfl hp (fun hc3 hp => ?_) (fun hc3 hp => ?_)
    · refine am_Rn.run am_h193 2 (F' := (23, [(3, .int r2.1), (0, .ref 83), (1, .int v1), (2, .int v2)], [.int 4, .int v2])) (S' := (am_sh, hx, r2.2.1, r2.2.2)) rfl ?_
      refine am_Rn.ite am_h193 (c := v2 = 4) (t := 26) (f := 28) (lv := [(3, .int r2.1), (0, .ref 83), (1, .int v1), (2, .int v2)]) (st := []) (S' := (am_sh, hx, r2.2.1, r2.2.2)) rfl hp (fun hc4 hp => ?_) (fun hc4 hp => ?_)
      · refine am_Rn.run am_h193 1 (F' := (27, [(3, .int r2.1), (0, .ref 83), (1, .int v1), (2, .int v2)], [.int r2.1])) (S' := (am_sh, hx, r2.2.1, r2.2.2)) rfl ?_
        cases hp
        exact am_Rn.ret am_h193 rfl
      · refine am_Rn.run am_h193 2 (F' := (31, [(3, .int r2.1), (0, .ref 83), (1, .int v1), (2, .int v2)], [.int 6, .int v2])) (S' := (am_sh, hx, r2.2.1, r2.2.2)) rfl ?_
        refine am_Rn.ite am_h193 (c := v2 = 6) (t := 34) (f := 51) (lv := [(3, .int r2.1), (0, .ref 83), (1, .int v1), (2, .int v2)]) (st := []) (S' := (am_sh, hx, r2.2.1, r2.2.2)) rfl hp (fun hc5 hp => ?_) (fun hc5 hp => ?_)
        · refine am_Rn.run am_h193 3 (F' := (40, [(3, .int r2.1), (0, .ref 83), (1, .int v1), (2, .int v2)], [.int 44, .int (r2.2.1 83 10)])) (S' := (am_sh, hx, r2.2.1, r2.2.2)) rfl ?_
          refine am_Rn.ite am_h193 (c := (r2.2.1 83 10) = 44) (t := 43) (f := 47) (lv := [(3, .int r2.1), (0, .ref 83), (1, .int v1), (2, .int v2)]) (st := []) (S' := (am_sh, hx, r2.2.1, r2.2.2)) rfl hp (fun hc6 hp => ?_) (fun hc6 hp => ?_)
          · refine am_Rn.run am_h193 2 (F' := (87, [(3, .int r2.1), (0, .ref 83), (1, .int v1), (2, .int v2)], [.int 1])) (S' := (am_sh, hx, r2.2.1, r2.2.2)) rfl ?_
            refine am_Rn.sub [1, 2, 3] rfl rfl ?_
            exact ezM_playedBy_J87 hd R v1 v2 1 r2.2 hp
          · refine am_Rn.run am_h193 2 (F' := (87, [(3, .int r2.1), (0, .ref 83), (1, .int v1), (2, .int v2)], [.int 0])) (S' := (am_sh, hx, r2.2.1, r2.2.2)) rfl ?_
            refine am_Rn.sub [1, 2, 3] rfl rfl ?_
            exact ezM_playedBy_J87 hd R v1 v2 0 r2.2 hp
        · refine am_Rn.run am_h193 3 (F' := (56, [(3, .int r2.1), (0, .ref 83), (1, .int v1), (2, .int v2)], [.int 2, .int (r2.2.1 83 10)])) (S' := (am_sh, hx, r2.2.1, r2.2.2)) rfl ?_
          refine am_Rn.ite am_h193 (c := (r2.2.1 83 10) = 2) (t := 59) (f := 86) (lv := [(3, .int r2.1), (0, .ref 83), (1, .int v1), (2, .int v2)]) (st := []) (S' := (am_sh, hx, r2.2.1, r2.2.2)) rfl hp (fun hc11 hp => ?_) (fun hc11 hp => ?_)
          · refine am_Rn.run am_h193 4 (F' := (65, [(3, .int r2.1), (0, .ref 83), (1, .int v1), (2, .int v2)], [.int 3, .int v2, .long (r2.2.2 83 12)])) (S' := (am_sh, hx, r2.2.1, r2.2.2)) rfl ?_
            refine am_Rn.ite am_h193 (c := v2 = 3) (t := 68) (f := 74) (lv := [(3, .int r2.1), (0, .ref 83), (1, .int v1), (2, .int v2)]) (st := [.long (r2.2.2 83 12)]) (S' := (am_sh, hx, r2.2.1, r2.2.2)) rfl hp (fun hc12 hp => ?_) (fun hc12 hp => ?_)
            · refine am_Rn.run am_h193 2 (F' := (77, [(3, .int r2.1), (0, .ref 83), (1, .int v1), (2, .int v2)], [.int 24948, .long (r2.2.2 83 12)])) (S' := (am_sh, hx, r2.2.1, r2.2.2)) rfl ?_
              refine am_Rn.sub [1, 2, 3] rfl rfl ?_
              exact ezM_playedBy_J77 hd R v1 v2 (r2.2.2 83 12) 24948 r2.2 hp
            · refine am_Rn.run am_h193 1 (F' := (77, [(3, .int r2.1), (0, .ref 83), (1, .int v1), (2, .int v2)], [.int 29807, .long (r2.2.2 83 12)])) (S' := (am_sh, hx, r2.2.1, r2.2.2)) rfl ?_
              refine am_Rn.sub [1, 2, 3] rfl rfl ?_
              exact ezM_playedBy_J77 hd R v1 v2 (r2.2.2 83 12) 29807 r2.2 hp
          · refine am_Rn.sub [1, 2, 3] rfl rfl ?_
            exact ezM_playedBy_J86 hd R v1 v2 r2.2 hp
    · refine am_Rn.run am_h193 1 (F' := (27, [(3, .int r2.1), (0, .ref 83), (1, .int v1), (2, .int v2)], [.int r2.1])) (S' := (am_sh, hx, r2.2.1, r2.2.2)) rfl ?_
      cases hp
      exact am_Rn.ret am_h193 rfl
/-- SixHandsModel.clause()I [83] -/
def zM_clause_J154 (w : zHM) : Option (Int32 × zHM) := am_b (w.1 83 13) fun x24 => am_ix 3160 x24 (am_ix 3160 x24 (am_b ((va_up w.1 86 (upd (w.1 86) (x24.toNatClampNeg) ((w.1 86 (x24.toNatClampNeg)) + 1)), w.2)) fun w27 => if (w27.1 83 10) = 59 then ((zM_nextToken w27).bind fun r29 => some ((0, r29))) else (some ((1, w27)))))
set_option maxRecDepth 20000 in
theorem ezM_clause_J154 {d : Nat} (hd : 8 ≤ d) (R : Int32 × zHM) (w : zHM) (hp : zM_clause_J154 w = some R) : am_Rn 83 Xs am_P d 194 (154, [(0, .ref 83)], []) (am_sh, hx, w.1, w.2) (some (.int R.1), (am_sh, hx, R.2.1, R.2.2)) := by
  obtain ⟨d, rfl⟩ : ∃ k, d = k + 1 := ⟨d - 1, by omega⟩
  unfold zM_clause_J154 at hp
  obtain ⟨x24, h_x24, hp⟩ := am_b_e hp
  refine am_Rn.run am_h194 5 (F' := (163, [(0, .ref 83)], [.int x24, .ref 86, .int x24, .ref 86])) (S' := (am_sh, hx, w.1, w.2)) (by subst h_x24; rfl) ?_
  obtain ⟨hn25, hp⟩ := am_ix_e hp
  refine am_Rn.stepG am_h194 (c := x24 < 0 ∨ 3160 ≤ x24.toNatClampNeg) (F' := (164, [(0, .ref 83)], [.int (w.1 86 (x24.toNatClampNeg)), .int x24, .ref 86])) (S' := (am_sh, hx, w.1, w.2)) rfl hn25 ?_
  refine am_Rn.run am_h194 2 (F' := (166, [(0, .ref 83)], [.int ((w.1 86 (x24.toNatClampNeg)) + 1), .int x24, .ref 86])) (S' := (am_sh, hx, w.1, w.2)) rfl ?_
  obtain ⟨hn26, hp⟩ := am_ix_e hp
  obtain ⟨w27, h_w27, hp⟩ := am_b_e hp
  refine am_Rn.stepG am_h194 (c := x24 < 0 ∨ 3160 ≤ x24.toNatClampNeg) (F' := (167, [(0, .ref 83)], [])) (S' := (am_sh, hx, w27.1, w27.2)) (by subst h_w27; rfl) hn26 ?_
  refine am_Rn.run am_h194 3 (F' := (173, [(0, .ref 83)], [.int 59, .int (w27.1 83 10)])) (S' := (am_sh, hx, w27.1, w27.2)) rfl ?_
  refine am_Rn.ite am_h194 (c := (w27.1 83 10) = 59) (t := 178) (f := 176) (lv := [(0, .ref 83)]) (st := []) (S' := (am_sh, hx, w27.1, w27.2)) rfl hp (fun hc28 hp => ?_) (fun hc28 hp => ?_)
  · refine am_Rn.run am_h194 1 (F' := (179, [(0, .ref 83)], [.ref 83])) (S' := (am_sh, hx, w27.1, w27.2)) rfl ?_
    obtain ⟨r29, h_r29, hp⟩ := am_bind hp
    refine am_Rn.call am_h194 (mj := 171) (As := [.ref 83]) (F' := (182, [(0, .ref 83)], [])) (M' := am_m171) (r := none) (S1 := (am_sh, hx, r29.1, r29.2)) rfl am_h171 rfl (ezM_nextToken (by omega) w27 _ h_r29) ?_
    refine am_Rn.run am_h194 1 (F' := (183, [(0, .ref 83)], [.int 0])) (S' := (am_sh, hx, r29.1, r29.2)) rfl ?_
    cases hp
    exact am_Rn.ret am_h194 rfl
  · refine am_Rn.run am_h194 1 (F' := (177, [(0, .ref 83)], [.int 1])) (S' := (am_sh, hx, w27.1, w27.2)) rfl ?_
    cases hp
    exact am_Rn.ret am_h194 rfl
def zM_clause_J117 (v1 : Int32) (v3 : Int32) (v4 : Int32) (s0 : Int32) (w : zHM) : Option (Int32 × zHM) := if s0 = 0 then (if v1 < 3 then (am_ix 3160 (v3 + 1) (am_b ((va_up w.1 86 (upd (w.1 86) ((v3 + 1).toNatClampNeg) v4), w.2)) fun w21 => am_ix 3160 (v3 + 2) (am_b ((va_up w21.1 86 (upd (w21.1 86) ((v3 + 2).toNatClampNeg) (w21.1 83 15)), w21.2)) fun w23 => zM_clause_J154 w23))) else (zM_clause_J154 w)) else (some ((s0, w)))
set_option maxRecDepth 20000 in
theorem ezM_clause_J117 {d : Nat} (hd : 8 ≤ d) (R : Int32 × zHM) (v1 : Int32) (v3 : Int32) (v4 : Int32) (s0 : Int32) (w : zHM) (hp : zM_clause_J117 v1 v3 v4 s0 w = some R) : am_Rn 83 Xs am_P d 194 (117, [(0, .ref 83), (1, .int v1), (3, .int v3), (4, .int v4)], [.int s0]) (am_sh, hx, w.1, w.2) (some (.int R.1), (am_sh, hx, R.2.1, R.2.2)) := by
  obtain ⟨d, rfl⟩ : ∃ k, d = k + 1 := ⟨d - 1, by omega⟩
  unfold zM_clause_J117 at hp
  refine am_Rn.run am_h194 2 (F' := (121, [(5, .int s0), (0, .ref 83), (1, .int v1), (3, .int v3), (4, .int v4)], [.int s0])) (S' := (am_sh, hx, w.1, w.2)) rfl ?_
  refine am_Rn.ite am_h194 (c := s0 = 0) (t := 127) (f := 124) (lv := [(5, .int s0), (0, .ref 83), (1, .int v1), (3, .int v3), (4, .int v4)]) (st := []) (S' := (am_sh, hx, w.1, w.2)) rfl hp (fun hc18 hp => ?_) (fun hc18 hp => ?_)
  · refine am_Rn.run am_h194 2 (F' := (129, [(5, .int s0), (0, .ref 83), (1, .int v1), (3, .int v3), (4, .int v4)], [.int 3, .int v1])) (S' := (am_sh, hx, w.1, w.2)) rfl ?_
    refine am_Rn.ite am_h194 (c := v1 < 3) (t := 132) (f := 154) (lv := [(5, .int s0), (0, .ref 83), (1, .int v1), (3, .int v3), (4, .int v4)]) (st := []) (S' := (am_sh, hx, w.1, w.2)) rfl hp (fun hc19 hp => ?_) (fun hc19 hp => ?_)
    · refine am_Rn.run am_h194 6 (F' := (141, [(5, .int s0), (0, .ref 83), (1, .int v1), (3, .int v3), (4, .int v4)], [.int v4, .int (v3 + 1), .ref 86])) (S' := (am_sh, hx, w.1, w.2)) rfl ?_
      obtain ⟨hn20, hp⟩ := am_ix_e hp
      obtain ⟨w21, h_w21, hp⟩ := am_b_e hp
      refine am_Rn.stepG am_h194 (c := (v3 + 1) < 0 ∨ 3160 ≤ (v3 + 1).toNatClampNeg) (F' := (142, [(5, .int s0), (0, .ref 83), (1, .int v1), (3, .int v3), (4, .int v4)], [])) (S' := (am_sh, hx, w21.1, w21.2)) (by subst h_w21; rfl) hn20 ?_
      refine am_Rn.run am_h194 7 (F' := (153, [(5, .int s0), (0, .ref 83), (1, .int v1), (3, .int v3), (4, .int v4)], [.int (w21.1 83 15), .int (v3 + 2), .ref 86])) (S' := (am_sh, hx, w21.1, w21.2)) rfl ?_
      obtain ⟨hn22, hp⟩ := am_ix_e hp
      obtain ⟨w23, h_w23, hp⟩ := am_b_e hp
      refine am_Rn.stepG am_h194 (c := (v3 + 2) < 0 ∨ 3160 ≤ (v3 + 2).toNatClampNeg) (F' := (154, [(5, .int s0), (0, .ref 83), (1, .int v1), (3, .int v3), (4, .int v4)], [])) (S' := (am_sh, hx, w23.1, w23.2)) (by subst h_w23; rfl) hn22 ?_
      refine am_Rn.sub [1] rfl rfl ?_
      exact ezM_clause_J154 hd R w23 hp
    · refine am_Rn.sub [1] rfl rfl ?_
      exact ezM_clause_J154 hd R w hp
  · refine am_Rn.run am_h194 1 (F' := (126, [(5, .int s0), (0, .ref 83), (1, .int v1), (3, .int v3), (4, .int v4)], [.int s0])) (S' := (am_sh, hx, w.1, w.2)) rfl ?_
    cases hp
    exact am_Rn.ret am_h194 rfl
def zM_clause_J66 (v1 : Int32) (v2 : Int32) (w : zHM) : Option (Int32 × zHM) := am_b ((va_up w.1 83 (upd (w.1 83) 21 v1), w.2)) fun w10 => (zM_nextToken w10).bind fun r11 => am_b (((r11.1 83 13) + 1) + (3 * v2)) fun x12 => am_ix 3160 x12 (am_b ((va_up r11.1 86 (upd (r11.1 86) (x12.toNatClampNeg) v1), r11.2)) fun w14 => am_b (w14.1 83 15) fun x15 => if v1 < 3 then ((zM_either w14).bind fun r17 => zM_clause_J117 v1 x12 x15 r17.1 r17.2) else ((zM_playedBy x12 v1 w14).bind fun r30 => zM_clause_J117 v1 x12 x15 r30.1 r30.2))
set_option maxRecDepth 20000 in
theorem ezM_clause_J66 {d : Nat} (hd : 8 ≤ d) (R : Int32 × zHM) (v1 : Int32) (v2 : Int32) (w : zHM) (hp : zM_clause_J66 v1 v2 w = some R) : am_Rn 83 Xs am_P d 194 (66, [(0, .ref 83), (1, .int v1), (2, .int v2)], []) (am_sh, hx, w.1, w.2) (some (.int R.1), (am_sh, hx, R.2.1, R.2.2)) := by
  obtain ⟨d, rfl⟩ : ∃ k, d = k + 1 := ⟨d - 1, by omega⟩
  unfold zM_clause_J66 at hp
  obtain ⟨w10, h_w10, hp⟩ := am_b_e hp
  refine am_Rn.run am_h194 4 (F' := (72, [(0, .ref 83), (1, .int v1), (2, .int v2)], [.ref 83])) (S' := (am_sh, hx, w10.1, w10.2)) (by subst h_w10; rfl) ?_
  obtain ⟨r11, h_r11, hp⟩ := am_bind hp
  refine am_Rn.call am_h194 (mj := 171) (As := [.ref 83]) (F' := (75, [(0, .ref 83), (1, .int v1), (2, .int v2)], [])) (M' := am_m171) (r := none) (S1 := (am_sh, hx, r11.1, r11.2)) rfl am_h171 rfl (ezM_nextToken (by omega) w10 _ h_r11) ?_
  obtain ⟨x12, h_x12, hp⟩ := am_b_e hp
  refine am_Rn.run am_h194 13 (F' := (92, [(3, .int x12), (0, .ref 83), (1, .int v1), (2, .int v2)], [.int v1, .int x12, .ref 86])) (S' := (am_sh, hx, r11.1, r11.2)) (by subst h_x12; rfl) ?_
  obtain ⟨hn13, hp⟩ := am_ix_e hp
  obtain ⟨w14, h_w14, hp⟩ := am_b_e hp
  refine am_Rn.stepG am_h194 (c := x12 < 0 ∨ 3160 ≤ x12.toNatClampNeg) (F' := (93, [(3, .int x12), (0, .ref 83), (1, .int v1), (2, .int v2)], [])) (S' := (am_sh, hx, w14.1, w14.2)) (by subst h_w14; rfl) hn13 ?_
  obtain ⟨x15, h_x15, hp⟩ := am_b_e hp
  refine am_Rn.run am_h194 5 (F' := (101, [(4, .int x15), (3, .int x12), (0, .ref 83), (1, .int v1), (2, .int v2)], [.int 3, .int v1])) (S' := (am_sh, hx, w14.1, w14.2)) (by subst h_x15; rfl) ?_
  refine am_Rn.ite am_h194 (c := v1 < 3) (t := 113) (f := 104) (lv := [(4, .int x15), (3, .int x12), (0, .ref 83), (1, .int v1), (2, .int v2)]) (st := []) (S' := (am_sh, hx, w14.1, w14.2)) rfl hp (fun hc16 hp => ?_) (fun hc16 hp => ?_)
  · refine am_Rn.run am_h194 1 (F' := (114, [(4, .int x15), (3, .int x12), (0, .ref 83), (1, .int v1), (2, .int v2)], [.ref 83])) (S' := (am_sh, hx, w14.1, w14.2)) rfl ?_
    obtain ⟨r17, h_r17, hp⟩ := am_bind hp
    refine am_Rn.call am_h194 (mj := 190) (As := [.ref 83]) (F' := (117, [(4, .int x15), (3, .int x12), (0, .ref 83), (1, .int v1), (2, .int v2)], [])) (M' := am_m190) (r := some (.int r17.1)) (S1 := (am_sh, hx, r17.2.1, r17.2.2)) rfl am_h190 rfl (ezM_either (by omega) w14 _ h_r17) ?_
    refine am_Rn.sub [2, 3, 1, 0] rfl rfl ?_
    exact ezM_clause_J117 hd R v1 x12 x15 r17.1 r17.2 hp
  · refine am_Rn.run am_h194 3 (F' := (107, [(4, .int x15), (3, .int x12), (0, .ref 83), (1, .int v1), (2, .int v2)], [.int v1, .int x12, .ref 83])) (S' := (am_sh, hx, w14.1, w14.2)) rfl ?_
    obtain ⟨r30, h_r30, hp⟩ := am_bind hp
    refine am_Rn.call am_h194 (mj := 193) (As := [.ref 83, .int x12, .int v1]) (F' := (110, [(4, .int x15), (3, .int x12), (0, .ref 83), (1, .int v1), (2, .int v2)], [])) (M' := am_m193) (r := some (.int r30.1)) (S1 := (am_sh, hx, r30.2.1, r30.2.2)) rfl am_h193 rfl (ezM_playedBy (by omega) x12 v1 w14 _ h_r30) ?_
    refine am_Rn.run am_h194 1 (F' := (117, [(4, .int x15), (3, .int x12), (0, .ref 83), (1, .int v1), (2, .int v2)], [.int r30.1])) (S' := (am_sh, hx, r30.2.1, r30.2.2)) rfl ?_
    refine am_Rn.sub [2, 3, 1, 0] rfl rfl ?_
    exact ezM_clause_J117 hd R v1 x12 x15 r30.1 r30.2 hp
def zM_clause_J30 (v1 : Int32) (w : zHM) : Option (Int32 × zHM) := am_ix 3160 (w.1 83 13) (am_b (w.1 86 ((w.1 83 13).toNatClampNeg)) fun x6 => if x6 = 50 then (some ((6, w))) else (if v1 < 3 then (am_b ((va_up w.1 83 (upd (w.1 83) 22 ((w.1 83 22) ||| ((1 : Int32) <<< (v1 &&& 31)))), w.2)) fun w9 => zM_clause_J66 v1 x6 w9) else (zM_clause_J66 v1 x6 w)))
set_option maxRecDepth 20000 in
theorem ezM_clause_J30 {d : Nat} (hd : 8 ≤ d) (R : Int32 × zHM) (v1 : Int32) (w : zHM) (hp : zM_clause_J30 v1 w = some R) : am_Rn 83 Xs am_P d 194 (30, [(0, .ref 83), (1, .int v1)], []) (am_sh, hx, w.1, w.2) (some (.int R.1), (am_sh, hx, R.2.1, R.2.2)) := by
  obtain ⟨d, rfl⟩ : ∃ k, d = k + 1 := ⟨d - 1, by omega⟩
  unfold zM_clause_J30 at hp
  refine am_Rn.run am_h194 4 (F' := (38, [(0, .ref 83), (1, .int v1)], [.int (w.1 83 13), .ref 86])) (S' := (am_sh, hx, w.1, w.2)) rfl ?_
  obtain ⟨hn5, hp⟩ := am_ix_e hp
  refine am_Rn.stepG am_h194 (c := (w.1 83 13) < 0 ∨ 3160 ≤ (w.1 83 13).toNatClampNeg) (F' := (39, [(0, .ref 83), (1, .int v1)], [.int (w.1 86 ((w.1 83 13).toNatClampNeg))])) (S' := (am_sh, hx, w.1, w.2)) rfl hn5 ?_
  obtain ⟨x6, h_x6, hp⟩ := am_b_e hp
  refine am_Rn.run am_h194 3 (F' := (43, [(2, .int x6), (0, .ref 83), (1, .int v1)], [.int 50, .int x6])) (S' := (am_sh, hx, w.1, w.2)) (by subst h_x6; rfl) ?_
  refine am_Rn.ite am_h194 (c := x6 = 50) (t := 46) (f := 49) (lv := [(2, .int x6), (0, .ref 83), (1, .int v1)]) (st := []) (S' := (am_sh, hx, w.1, w.2)) rfl hp (fun hc7 hp => ?_) (fun hc7 hp => ?_)
  · refine am_Rn.run am_h194 1 (F' := (48, [(2, .int x6), (0, .ref 83), (1, .int v1)], [.int 6])) (S' := (am_sh, hx, w.1, w.2)) rfl ?_
    cases hp
    exact am_Rn.ret am_h194 rfl
  · refine am_Rn.run am_h194 2 (F' := (51, [(2, .int x6), (0, .ref 83), (1, .int v1)], [.int 3, .int v1])) (S' := (am_sh, hx, w.1, w.2)) rfl ?_
    refine am_Rn.ite am_h194 (c := v1 < 3) (t := 54) (f := 66) (lv := [(2, .int x6), (0, .ref 83), (1, .int v1)]) (st := []) (S' := (am_sh, hx, w.1, w.2)) rfl hp (fun hc8 hp => ?_) (fun hc8 hp => ?_)
    · obtain ⟨w9, h_w9, hp⟩ := am_b_e hp
      refine am_Rn.run am_h194 8 (F' := (66, [(2, .int x6), (0, .ref 83), (1, .int v1)], [])) (S' := (am_sh, hx, w9.1, w9.2)) (by subst h_w9; rfl) ?_
      refine am_Rn.sub [1, 2, 0] rfl rfl ?_
      exact ezM_clause_J66 hd R v1 x6 w9 hp
    · refine am_Rn.sub [1, 2, 0] rfl rfl ?_
      exact ezM_clause_J66 hd R v1 x6 w hp
def zM_clause (w : zHM) : Option (Int32 × zHM) := am_b (zM_sortOf w) fun r1 => if r1 < 0 then (some ((1, w))) else (if r1 < 3 then (if (((w.1 83 22) >>> (r1 &&& 31)) &&& 1) = 1 then (some ((4, w))) else (zM_clause_J30 r1 w)) else (zM_clause_J30 r1 w))
set_option maxRecDepth 20000 in
theorem ezM_clause {d : Nat} (hd : 8 ≤ d) (w : zHM) (R : Int32 × zHM) (hp : zM_clause w = some R) : am_Ev 83 Xs am_P d 194 [.ref 83] (am_sh, hx, w.1, w.2) (some (.int R.1), (am_sh, hx, R.2.1, R.2.2)) := by
  obtain ⟨d, rfl⟩ : ∃ k, d = k + 1 := ⟨d - 1, by omega⟩
  unfold zM_clause at hp
  show am_Rn 83 Xs am_P _ 194 (0, [(0, .ref 83)], []) _ _
  refine am_Rn.run am_h194 1 (F' := (1, [(0, .ref 83)], [.ref 83])) (S' := (am_sh, hx, w.1, w.2)) rfl ?_
  obtain ⟨r1, h_r1, hp⟩ := am_b_e hp
  refine am_Rn.call am_h194 (mj := 191) (As := [.ref 83]) (F' := (4, [(0, .ref 83)], [])) (M' := am_m191) (r := some (.int r1)) (S1 := (am_sh, hx, w.1, w.2)) rfl am_h191 rfl (by subst h_r1; exact (ezM_sortOf (by omega) w)) ?_
  refine am_Rn.run am_h194 2 (F' := (6, [(1, .int r1), (0, .ref 83)], [.int r1])) (S' := (am_sh, hx, w.1, w.2)) rfl ?_
  refine am_Rn.ite am_h194 (c := r1 < 0) (t := 9) (f := 11) (lv := [(1, .int r1), (0, .ref 83)]) (st := []) (S' := (am_sh, hx, w.1, w.2)) rfl hp (fun hc2 hp => ?_) (fun hc2 hp => ?_)
  · refine am_Rn.run am_h194 1 (F' := (10, [(1, .int r1), (0, .ref 83)], [.int 1])) (S' := (am_sh, hx, w.1, w.2)) rfl ?_
    cases hp
    exact am_Rn.ret am_h194 rfl
  · refine am_Rn.run am_h194 2 (F' := (13, [(1, .int r1), (0, .ref 83)], [.int 3, .int r1])) (S' := (am_sh, hx, w.1, w.2)) rfl ?_
    refine am_Rn.ite am_h194 (c := r1 < 3) (t := 16) (f := 30) (lv := [(1, .int r1), (0, .ref 83)]) (st := []) (S' := (am_sh, hx, w.1, w.2)) rfl hp (fun hc3 hp => ?_) (fun hc3 hp => ?_)
    · refine am_Rn.run am_h194 7 (F' := (25, [(1, .int r1), (0, .ref 83)], [.int 1, .int (((w.1 83 22) >>> (r1 &&& 31)) &&& 1)])) (S' := (am_sh, hx, w.1, w.2)) rfl ?_
      refine am_Rn.ite am_h194 (c := (((w.1 83 22) >>> (r1 &&& 31)) &&& 1) = 1) (t := 28) (f := 30) (lv := [(1, .int r1), (0, .ref 83)]) (st := []) (S' := (am_sh, hx, w.1, w.2)) rfl hp (fun hc4 hp => ?_) (fun hc4 hp => ?_)
      · refine am_Rn.run am_h194 1 (F' := (29, [(1, .int r1), (0, .ref 83)], [.int 4])) (S' := (am_sh, hx, w.1, w.2)) rfl ?_
        cases hp
        exact am_Rn.ret am_h194 rfl
      · refine am_Rn.sub [1, 0] rfl rfl ?_
        exact ezM_clause_J30 hd R r1 w hp
    · refine am_Rn.sub [1, 0] rfl rfl ?_
      exact ezM_clause_J30 hd R r1 w hp
/-- SixHandsModel.readText()I [83] -/
def zM_readText_L48 : Nat → zHM → Option (Int32 × zHM)
  | 0, _ => none
  | n + 1, w => if (w.1 83 10) = 0 then (some ((0, w))) else ((zM_clause w).bind fun r10 => if r10.1 = 0 then (zM_readText_L48 n r10.2) else (some ((r10.1, r10.2))))
set_option maxRecDepth 20000 in
theorem ezM_readText_L48 {d : Nat} (hd : 9 ≤ d) (R : Int32 × zHM) : ∀ (n : Nat) (w : zHM), zM_readText_L48 n w = some R → am_Rn 83 Xs am_P d 195 (48, [(0, .ref 83)], []) (am_sh, hx, w.1, w.2) (some (.int R.1), (am_sh, hx, R.2.1, R.2.2))
  | 0, _, hp => by cases hp
  | n + 1, w, hp => by
    obtain ⟨d, rfl⟩ : ∃ k, d = k + 1 := ⟨d - 1, by omega⟩
    unfold zM_readText_L48 at hp
    refine am_Rn.run am_h195 2 (F' := (52, [(0, .ref 83)], [.int (w.1 83 10)])) (S' := (am_sh, hx, w.1, w.2)) rfl ?_
    refine am_Rn.ite am_h195 (c := (w.1 83 10) = 0) (t := 69) (f := 55) (lv := [(0, .ref 83)]) (st := []) (S' := (am_sh, hx, w.1, w.2)) rfl hp (fun hc9 hp => ?_) (fun hc9 hp => ?_)
    · refine am_Rn.run am_h195 1 (F' := (70, [(0, .ref 83)], [.int 0])) (S' := (am_sh, hx, w.1, w.2)) rfl ?_
      cases hp
      exact am_Rn.ret am_h195 rfl
    · refine am_Rn.run am_h195 1 (F' := (56, [(0, .ref 83)], [.ref 83])) (S' := (am_sh, hx, w.1, w.2)) rfl ?_
      obtain ⟨r10, h_r10, hp⟩ := am_bind hp
      refine am_Rn.call am_h195 (mj := 194) (As := [.ref 83]) (F' := (59, [(0, .ref 83)], [])) (M' := am_m194) (r := some (.int r10.1)) (S1 := (am_sh, hx, r10.2.1, r10.2.2)) rfl am_h194 rfl (ezM_clause (by omega) w _ h_r10) ?_
      refine am_Rn.run am_h195 2 (F' := (61, [(1, .int r10.1), (0, .ref 83)], [.int r10.1])) (S' := (am_sh, hx, r10.2.1, r10.2.2)) rfl ?_
      refine am_Rn.ite am_h195 (c := r10.1 = 0) (t := 66) (f := 64) (lv := [(1, .int r10.1), (0, .ref 83)]) (st := []) (S' := (am_sh, hx, r10.2.1, r10.2.2)) rfl hp (fun hc11 hp => ?_) (fun hc11 hp => ?_)
      · refine am_Rn.run am_h195 1 (F' := (48, [(1, .int r10.1), (0, .ref 83)], [])) (S' := (am_sh, hx, r10.2.1, r10.2.2)) rfl ?_
        refine am_Rn.sub [1] rfl rfl ?_
        exact ezM_readText_L48 hd R n r10.2 hp
      · refine am_Rn.run am_h195 1 (F' := (65, [(1, .int r10.1), (0, .ref 83)], [.int r10.1])) (S' := (am_sh, hx, r10.2.1, r10.2.2)) rfl ?_
        cases hp
        exact am_Rn.ret am_h195 rfl
def zM_readText (w : zHM) : Option (Int32 × zHM) := am_b ((va_up w.1 83 (upd (w.1 83) 13 (790 * (w.1 84 4))), w.2)) fun w1 => am_ix 3160 (w1.1 83 13) (am_b ((va_up w1.1 86 (upd (w1.1 86) ((w1.1 83 13).toNatClampNeg) 0), w1.2)) fun w3 => am_b ((va_up w3.1 83 (upd (w3.1 83) 15 0), w3.2)) fun w4 => am_b ((va_up w4.1 83 (upd (w4.1 83) 19 0), w4.2)) fun w5 => am_b ((va_up w5.1 83 (upd (w5.1 83) 22 0), w5.2)) fun w6 => am_b ((va_up w6.1 83 (upd (w6.1 83) 8 0), w6.2)) fun w7 => (zM_nextToken w7).bind fun r8 => zM_readText_L48 am_N r8)
set_option maxRecDepth 20000 in
theorem ezM_readText {d : Nat} (hd : 9 ≤ d) (w : zHM) (R : Int32 × zHM) (hp : zM_readText w = some R) : am_Ev 83 Xs am_P d 195 [.ref 83] (am_sh, hx, w.1, w.2) (some (.int R.1), (am_sh, hx, R.2.1, R.2.2)) := by
  obtain ⟨d, rfl⟩ : ∃ k, d = k + 1 := ⟨d - 1, by omega⟩
  unfold zM_readText at hp
  show am_Rn 83 Xs am_P _ 195 (0, [(0, .ref 83)], []) _ _
  obtain ⟨w1, h_w1, hp⟩ := am_b_e hp
  refine am_Rn.run am_h195 13 (F' := (23, [(0, .ref 83)], [.int 0, .int (w1.1 83 13), .ref 86])) (S' := (am_sh, hx, w1.1, w1.2)) (by subst h_w1; rfl) ?_
  obtain ⟨hn2, hp⟩ := am_ix_e hp
  obtain ⟨w3, h_w3, hp⟩ := am_b_e hp
  refine am_Rn.stepG am_h195 (c := (w1.1 83 13) < 0 ∨ 3160 ≤ (w1.1 83 13).toNatClampNeg) (F' := (24, [(0, .ref 83)], [])) (S' := (am_sh, hx, w3.1, w3.2)) (by subst h_w3; rfl) hn2 ?_
  obtain ⟨w4, h_w4, hp⟩ := am_b_e hp
  obtain ⟨w5, h_w5, hp⟩ := am_b_e hp
  obtain ⟨w6, h_w6, hp⟩ := am_b_e hp
  obtain ⟨w7, h_w7, hp⟩ := am_b_e hp
  refine am_Rn.run am_h195 13 (F' := (45, [(0, .ref 83)], [.ref 83])) (S' := (am_sh, hx, w7.1, w7.2)) (by subst h_w4; subst h_w5; subst h_w6; subst h_w7; rfl) ?_
  obtain ⟨r8, h_r8, hp⟩ := am_bind hp
  refine am_Rn.call am_h195 (mj := 171) (As := [.ref 83]) (F' := (48, [(0, .ref 83)], [])) (M' := am_m171) (r := none) (S1 := (am_sh, hx, r8.1, r8.2)) rfl am_h171 rfl (ezM_nextToken (by omega) w7 _ h_r8) ?_
  exact ezM_readText_L48 hd R am_N r8 hp
/-- SixHandsModel.text()I [83] -/
def zM_text_J36 (s1 : Int32) (w : zHM) : Option (Int32 × zHM) := am_b ((va_up w.1 83 (upd (w.1 83) 7 s1), w.2)) fun w5 => am_b ((va_up w5.1 83 (upd (w5.1 83) 5 0), w5.2)) fun w6 => if (w6.1 83 6) = 0 then (am_b ((va_up w6.1 84 (upd (w6.1 84) 4 ((w6.1 84 4) + 1)), w6.2)) fun w8 => some (((w8.1 84 4) - 1, w8))) else (some (((-1), w6)))
set_option maxRecDepth 20000 in
theorem ezM_text_J36 {d : Nat} (hd : 10 ≤ d) (R : Int32 × zHM) (s1 : Int32) (w : zHM) (hp : zM_text_J36 s1 w = some R) : am_Rn 83 Xs am_P d 196 (36, [(0, .ref 83)], [.int s1, .ref 83]) (am_sh, hx, w.1, w.2) (some (.int R.1), (am_sh, hx, R.2.1, R.2.2)) := by
  obtain ⟨d, rfl⟩ : ∃ k, d = k + 1 := ⟨d - 1, by omega⟩
  unfold zM_text_J36 at hp
  obtain ⟨w5, h_w5, hp⟩ := am_b_e hp
  obtain ⟨w6, h_w6, hp⟩ := am_b_e hp
  refine am_Rn.run am_h196 6 (F' := (48, [(0, .ref 83)], [.int (w6.1 83 6)])) (S' := (am_sh, hx, w6.1, w6.2)) (by subst h_w5; subst h_w6; rfl) ?_
  refine am_Rn.ite am_h196 (c := (w6.1 83 6) = 0) (t := 53) (f := 51) (lv := [(0, .ref 83)]) (st := []) (S' := (am_sh, hx, w6.1, w6.2)) rfl hp (fun hc7 hp => ?_) (fun hc7 hp => ?_)
  · obtain ⟨w8, h_w8, hp⟩ := am_b_e hp
    refine am_Rn.run am_h196 14 (F' := (71, [(0, .ref 83)], [.int ((w8.1 84 4) - 1)])) (S' := (am_sh, hx, w8.1, w8.2)) (by subst h_w8; rfl) ?_
    cases hp
    exact am_Rn.ret am_h196 rfl
  · refine am_Rn.run am_h196 1 (F' := (52, [(0, .ref 83)], [.int (-1)])) (S' := (am_sh, hx, w6.1, w6.2)) rfl ?_
    cases hp
    exact am_Rn.ret am_h196 rfl
def zM_text (w : zHM) : Option (Int32 × zHM) := if (w.1 84 4) = 4 then (some (((-1), w))) else ((zM_readText w).bind fun r2 => am_b ((va_up r2.2.1 83 (upd (r2.2.1 83) 6 r2.1), r2.2.2)) fun w3 => if (w3.1 83 6) = 0 then (zM_text_J36 (-1) w3) else (zM_text_J36 (w3.1 83 9) w3))
set_option maxRecDepth 20000 in
theorem ezM_text {d : Nat} (hd : 10 ≤ d) (w : zHM) (R : Int32 × zHM) (hp : zM_text w = some R) : am_Ev 83 Xs am_P d 196 [.ref 83] (am_sh, hx, w.1, w.2) (some (.int R.1), (am_sh, hx, R.2.1, R.2.2)) := by
  obtain ⟨d, rfl⟩ : ∃ k, d = k + 1 := ⟨d - 1, by omega⟩
  unfold zM_text at hp
  show am_Rn 83 Xs am_P _ 196 (0, [(0, .ref 83)], []) _ _
  refine am_Rn.run am_h196 5 (F' := (7, [(0, .ref 83)], [.int 4, .int (w.1 84 4)])) (S' := (am_sh, hx, w.1, w.2)) rfl ?_
  refine am_Rn.ite am_h196 (c := (w.1 84 4) = 4) (t := 10) (f := 12) (lv := [(0, .ref 83)]) (st := []) (S' := (am_sh, hx, w.1, w.2)) rfl hp (fun hc1 hp => ?_) (fun hc1 hp => ?_)
  · refine am_Rn.run am_h196 1 (F' := (11, [(0, .ref 83)], [.int (-1)])) (S' := (am_sh, hx, w.1, w.2)) rfl ?_
    cases hp
    exact am_Rn.ret am_h196 rfl
  · refine am_Rn.run am_h196 2 (F' := (14, [(0, .ref 83)], [.ref 83, .ref 83])) (S' := (am_sh, hx, w.1, w.2)) rfl ?_
    obtain ⟨r2, h_r2, hp⟩ := am_bind hp
    refine am_Rn.call am_h196 (mj := 195) (As := [.ref 83]) (F' := (17, [(0, .ref 83)], [.ref 83])) (M' := am_m195) (r := some (.int r2.1)) (S1 := (am_sh, hx, r2.2.1, r2.2.2)) rfl am_h195 rfl (ezM_readText (by omega) w _ h_r2) ?_
    obtain ⟨w3, h_w3, hp⟩ := am_b_e hp
    refine am_Rn.run am_h196 4 (F' := (25, [(0, .ref 83)], [.int (w3.1 83 6), .ref 83])) (S' := (am_sh, hx, w3.1, w3.2)) (by subst h_w3; rfl) ?_
    refine am_Rn.ite am_h196 (c := (w3.1 83 6) = 0) (t := 28) (f := 32) (lv := [(0, .ref 83)]) (st := [.ref 83]) (S' := (am_sh, hx, w3.1, w3.2)) rfl hp (fun hc4 hp => ?_) (fun hc4 hp => ?_)
    · refine am_Rn.run am_h196 2 (F' := (36, [(0, .ref 83)], [.int (-1), .ref 83])) (S' := (am_sh, hx, w3.1, w3.2)) rfl ?_
      exact ezM_text_J36 hd R (-1) w3 hp
    · refine am_Rn.run am_h196 2 (F' := (36, [(0, .ref 83)], [.int (w3.1 83 9), .ref 83])) (S' := (am_sh, hx, w3.1, w3.2)) rfl ?_
      exact ezM_text_J36 hd R (w3.1 83 9) w3 hp
/-- SixHandsModel.fault(I)I [83] -/
def zM_fault (v1 : Int32) (w : zHM) : Int32 := if v1 = 0 then (w.1 83 6) else (if v1 = 1 then (w.1 83 7) else ((-1)))
set_option maxRecDepth 20000 in
theorem ezM_fault {d : Nat} (hd : 0 ≤ d) (v1 : Int32) (w : zHM) : am_Ev 83 Xs am_P d 197 [.ref 83, .int v1] (am_sh, hx, w.1, w.2) (some (.int ((zM_fault v1 w))), (am_sh, hx, w.1, w.2)) := by
  obtain ⟨R, hp⟩ : ∃ R, zM_fault v1 w = R := ⟨_, rfl⟩
  rw [hp]
  unfold zM_fault at hp
  show am_Rn 83 Xs am_P _ 197 (0, [(0, .ref 83), (1, .int v1)], []) _ _
  refine am_Rn.run am_h197 1 (F' := (1, [(0, .ref 83), (1, .int v1)], [.int v1])) (S' := (am_sh, hx, w.1, w.2)) rfl ?_
  refine am_Rn.ite am_h197 (c := v1 = 0) (t := 4) (f := 11) (lv := [(0, .ref 83), (1, .int v1)]) (st := []) (S' := (am_sh, hx, w.1, w.2)) rfl hp (fun hc1 hp => ?_) (fun hc1 hp => ?_)
  · refine am_Rn.run am_h197 3 (F' := (24, [(0, .ref 83), (1, .int v1)], [.int (w.1 83 6)])) (S' := (am_sh, hx, w.1, w.2)) rfl ?_
    subst hp
    exact am_Rn.ret am_h197 rfl
  · refine am_Rn.run am_h197 2 (F' := (13, [(0, .ref 83), (1, .int v1)], [.int 1, .int v1])) (S' := (am_sh, hx, w.1, w.2)) rfl ?_
    refine am_Rn.ite am_h197 (c := v1 = 1) (t := 16) (f := 23) (lv := [(0, .ref 83), (1, .int v1)]) (st := []) (S' := (am_sh, hx, w.1, w.2)) rfl hp (fun hc2 hp => ?_) (fun hc2 hp => ?_)
    · refine am_Rn.run am_h197 3 (F' := (24, [(0, .ref 83), (1, .int v1)], [.int (w.1 83 7)])) (S' := (am_sh, hx, w.1, w.2)) rfl ?_
      subst hp
      exact am_Rn.ret am_h197 rfl
    · refine am_Rn.run am_h197 1 (F' := (24, [(0, .ref 83), (1, .int v1)], [.int (-1)])) (S' := (am_sh, hx, w.1, w.2)) rfl ?_
      subst hp
      exact am_Rn.ret am_h197 rfl
/-- SixHandsModel.by(I)Z [83] -/
def zM_by (v1 : Int32) (w : zHM) : Int32 × zHM := am_b (zM_isIn v1 (-1) ((w.1 84 4) - 1)) fun r1 => if r1 = 0 then ((0, w)) else (am_b ((va_up w.1 84 (upd (w.1 84) 5 v1), w.2)) fun w3 => (1, w3))
set_option maxRecDepth 20000 in
theorem ezM_by {d : Nat} (hd : 1 ≤ d) (v1 : Int32) (w : zHM) : am_Ev 83 Xs am_P d 198 [.ref 83, .int v1] (am_sh, hx, w.1, w.2) (some (.int (((zM_by v1 w)).1)), (am_sh, hx, (((zM_by v1 w)).2).1, (((zM_by v1 w)).2).2)) := by
  obtain ⟨R, hp⟩ : ∃ R, zM_by v1 w = R := ⟨_, rfl⟩
  rw [hp]
  obtain ⟨d, rfl⟩ : ∃ k, d = k + 1 := ⟨d - 1, by omega⟩
  unfold zM_by at hp
  show am_Rn 83 Xs am_P _ 198 (0, [(0, .ref 83), (1, .int v1)], []) _ _
  refine am_Rn.run am_h198 8 (F' := (10, [(0, .ref 83), (1, .int v1)], [.int ((w.1 84 4) - 1), .int (-1), .int v1])) (S' := (am_sh, hx, w.1, w.2)) rfl ?_
  obtain ⟨r1, h_r1, hp⟩ := am_b_e hp
  refine am_Rn.call am_h198 (mj := 152) (As := [.int v1, .int (-1), .int ((w.1 84 4) - 1)]) (F' := (13, [(0, .ref 83), (1, .int v1)], [])) (M' := am_m152) (r := some (.int r1)) (S1 := (am_sh, hx, w.1, w.2)) rfl am_h152 rfl (by subst h_r1; exact (ezM_isIn (by omega) v1 (-1) ((w.1 84 4) - 1))) ?_
  refine am_Rn.ite am_h198 (c := r1 = 0) (t := 16) (f := 18) (lv := [(0, .ref 83), (1, .int v1)]) (st := []) (S' := (am_sh, hx, w.1, w.2)) rfl hp (fun hc2 hp => ?_) (fun hc2 hp => ?_)
  · refine am_Rn.run am_h198 1 (F' := (17, [(0, .ref 83), (1, .int v1)], [.int 0])) (S' := (am_sh, hx, w.1, w.2)) rfl ?_
    subst hp
    exact am_Rn.ret am_h198 rfl
  · obtain ⟨w3, h_w3, hp⟩ := am_b_e hp
    refine am_Rn.run am_h198 6 (F' := (26, [(0, .ref 83), (1, .int v1)], [.int 1])) (S' := (am_sh, hx, w3.1, w3.2)) (by subst h_w3; rfl) ?_
    subst hp
    exact am_Rn.ret am_h198 rfl
/-- SixHandsModel.isFigure(I)Z [83] -/
def zM_isFigure (v1 : Int32) (w : zHM) : Int32 := am_b (zM_isIn v1 0 ((w.1 84 1) - 1)) fun r1 => r1 &&& 1
set_option maxRecDepth 20000 in
theorem ezM_isFigure {d : Nat} (hd : 1 ≤ d) (v1 : Int32) (w : zHM) : am_Ev 83 Xs am_P d 154 [.ref 83, .int v1] (am_sh, hx, w.1, w.2) (some (.int ((zM_isFigure v1 w))), (am_sh, hx, w.1, w.2)) := by
  obtain ⟨R, hp⟩ : ∃ R, zM_isFigure v1 w = R := ⟨_, rfl⟩
  rw [hp]
  obtain ⟨d, rfl⟩ : ∃ k, d = k + 1 := ⟨d - 1, by omega⟩
  unfold zM_isFigure at hp
  show am_Rn 83 Xs am_P _ 154 (0, [(0, .ref 83), (1, .int v1)], []) _ _
  refine am_Rn.run am_h154 8 (F' := (10, [(0, .ref 83), (1, .int v1)], [.int ((w.1 84 1) - 1), .int 0, .int v1])) (S' := (am_sh, hx, w.1, w.2)) rfl ?_
  obtain ⟨r1, h_r1, hp⟩ := am_b_e hp
  refine am_Rn.call am_h154 (mj := 152) (As := [.int v1, .int 0, .int ((w.1 84 1) - 1)]) (F' := (13, [(0, .ref 83), (1, .int v1)], [])) (M' := am_m152) (r := some (.int r1)) (S1 := (am_sh, hx, w.1, w.2)) rfl am_h152 rfl (by subst h_r1; exact (ezM_isIn (by omega) v1 0 ((w.1 84 1) - 1))) ?_
  subst hp
  exact am_Rn.ret am_h154 rfl
/-- SixHandsModel.isOn(I)Z [83] -/
def zM_isOn (v1 : Int32) (w : zHM) : Option (Int32) := am_b (zM_isFigure v1 w) fun r1 => if r1 = 0 then (some 0) else (am_ix 350 (40 + v1) (if (w.1 84 ((40 + v1).toNatClampNeg)) < 0 then (some 0) else (some 1)))
set_option maxRecDepth 20000 in
theorem ezM_isOn {d : Nat} (hd : 2 ≤ d) (v1 : Int32) (w : zHM) (R : Int32) (hp : zM_isOn v1 w = some R) : am_Ev 83 Xs am_P d 199 [.ref 83, .int v1] (am_sh, hx, w.1, w.2) (some (.int R), (am_sh, hx, w.1, w.2)) := by
  obtain ⟨d, rfl⟩ : ∃ k, d = k + 1 := ⟨d - 1, by omega⟩
  unfold zM_isOn at hp
  show am_Rn 83 Xs am_P _ 199 (0, [(0, .ref 83), (1, .int v1)], []) _ _
  refine am_Rn.run am_h199 2 (F' := (2, [(0, .ref 83), (1, .int v1)], [.int v1, .ref 83])) (S' := (am_sh, hx, w.1, w.2)) rfl ?_
  obtain ⟨r1, h_r1, hp⟩ := am_b_e hp
  refine am_Rn.call am_h199 (mj := 154) (As := [.ref 83, .int v1]) (F' := (5, [(0, .ref 83), (1, .int v1)], [])) (M' := am_m154) (r := some (.int r1)) (S1 := (am_sh, hx, w.1, w.2)) rfl am_h154 rfl (by subst h_r1; exact (ezM_isFigure (by omega) v1 w)) ?_
  refine am_Rn.ite am_h199 (c := r1 = 0) (t := 24) (f := 8) (lv := [(0, .ref 83), (1, .int v1)]) (st := []) (S' := (am_sh, hx, w.1, w.2)) rfl hp (fun hc2 hp => ?_) (fun hc2 hp => ?_)
  · refine am_Rn.run am_h199 1 (F' := (25, [(0, .ref 83), (1, .int v1)], [.int 0])) (S' := (am_sh, hx, w.1, w.2)) rfl ?_
    cases hp
    exact am_Rn.ret am_h199 rfl
  · refine am_Rn.run am_h199 5 (F' := (16, [(0, .ref 83), (1, .int v1)], [.int (40 + v1), .ref 84])) (S' := (am_sh, hx, w.1, w.2)) rfl ?_
    obtain ⟨hn3, hp⟩ := am_ix_e hp
    refine am_Rn.stepG am_h199 (c := (40 + v1) < 0 ∨ 350 ≤ (40 + v1).toNatClampNeg) (F' := (17, [(0, .ref 83), (1, .int v1)], [.int (w.1 84 ((40 + v1).toNatClampNeg))])) (S' := (am_sh, hx, w.1, w.2)) rfl hn3 ?_
    refine am_Rn.ite am_h199 (c := (w.1 84 ((40 + v1).toNatClampNeg)) < 0) (t := 24) (f := 20) (lv := [(0, .ref 83), (1, .int v1)]) (st := []) (S' := (am_sh, hx, w.1, w.2)) rfl hp (fun hc4 hp => ?_) (fun hc4 hp => ?_)
    · refine am_Rn.run am_h199 1 (F' := (25, [(0, .ref 83), (1, .int v1)], [.int 0])) (S' := (am_sh, hx, w.1, w.2)) rfl ?_
      cases hp
      exact am_Rn.ret am_h199 rfl
    · refine am_Rn.run am_h199 2 (F' := (25, [(0, .ref 83), (1, .int v1)], [.int 1])) (S' := (am_sh, hx, w.1, w.2)) rfl ?_
      cases hp
      exact am_Rn.ret am_h199 rfl
/-- SixHandsModel.isEnded()Z [83] -/
def zM_isEnded_L16 : Nat → Int32 → zHM → Option (Int32 × zHM)
  | 0, _, _ => none
  | n + 1, v1, w => if v1 < 6 then (am_ix 350 (40 + v1) (am_ix 350 ((50 + (6 * (w.1 84 6))) + v1) (am_b ((va_up w.1 84 (upd (w.1 84) (((50 + (6 * (w.1 84 6))) + v1).toNatClampNeg) (w.1 84 ((40 + v1).toNatClampNeg))), w.2)) fun w5 => am_ix 350 ((200 + (6 * (w5.1 84 6))) + v1) (am_b ((va_up w5.1 84 (upd (w5.1 84) (((200 + (6 * (w5.1 84 6))) + v1).toNatClampNeg) 0), w5.2)) fun w7 => zM_isEnded_L16 n (v1 + 1) w7)))) else (am_b ((va_up w.1 84 (upd (w.1 84) 6 ((w.1 84 6) + 1)), w.2)) fun w8 => some ((1, w8)))
set_option maxRecDepth 20000 in
theorem ezM_isEnded_L16 {d : Nat} (hd : 0 ≤ d) (R : Int32 × zHM) : ∀ (n : Nat) (v1 : Int32) (w : zHM), zM_isEnded_L16 n v1 w = some R → am_Rn 83 Xs am_P d 201 (16, [(0, .ref 83), (1, .int v1)], []) (am_sh, hx, w.1, w.2) (some (.int R.1), (am_sh, hx, R.2.1, R.2.2))
  | 0, _, _, hp => by cases hp
  | n + 1, v1, w, hp => by
    unfold zM_isEnded_L16 at hp
    refine am_Rn.run am_h201 2 (F' := (19, [(0, .ref 83), (1, .int v1)], [.int 6, .int v1])) (S' := (am_sh, hx, w.1, w.2)) rfl ?_
    refine am_Rn.ite am_h201 (c := v1 < 6) (t := 22) (f := 79) (lv := [(0, .ref 83), (1, .int v1)]) (st := []) (S' := (am_sh, hx, w.1, w.2)) rfl hp (fun hc2 hp => ?_) (fun hc2 hp => ?_)
    · refine am_Rn.run am_h201 17 (F' := (49, [(0, .ref 83), (1, .int v1)], [.int (40 + v1), .ref 84, .int ((50 + (6 * (w.1 84 6))) + v1), .ref 84])) (S' := (am_sh, hx, w.1, w.2)) rfl ?_
      obtain ⟨hn3, hp⟩ := am_ix_e hp
      refine am_Rn.stepG am_h201 (c := (40 + v1) < 0 ∨ 350 ≤ (40 + v1).toNatClampNeg) (F' := (50, [(0, .ref 83), (1, .int v1)], [.int (w.1 84 ((40 + v1).toNatClampNeg)), .int ((50 + (6 * (w.1 84 6))) + v1), .ref 84])) (S' := (am_sh, hx, w.1, w.2)) rfl hn3 ?_
      obtain ⟨hn4, hp⟩ := am_ix_e hp
      obtain ⟨w5, h_w5, hp⟩ := am_b_e hp
      refine am_Rn.stepG am_h201 (c := ((50 + (6 * (w.1 84 6))) + v1) < 0 ∨ 350 ≤ ((50 + (6 * (w.1 84 6))) + v1).toNatClampNeg) (F' := (51, [(0, .ref 83), (1, .int v1)], [])) (S' := (am_sh, hx, w5.1, w5.2)) (by subst h_w5; rfl) hn4 ?_
      refine am_Rn.run am_h201 13 (F' := (72, [(0, .ref 83), (1, .int v1)], [.int 0, .int ((200 + (6 * (w5.1 84 6))) + v1), .ref 84])) (S' := (am_sh, hx, w5.1, w5.2)) rfl ?_
      obtain ⟨hn6, hp⟩ := am_ix_e hp
      obtain ⟨w7, h_w7, hp⟩ := am_b_e hp
      refine am_Rn.stepG am_h201 (c := ((200 + (6 * (w5.1 84 6))) + v1) < 0 ∨ 350 ≤ ((200 + (6 * (w5.1 84 6))) + v1).toNatClampNeg) (F' := (73, [(0, .ref 83), (1, .int v1)], [])) (S' := (am_sh, hx, w7.1, w7.2)) (by subst h_w7; rfl) hn6 ?_
      refine am_Rn.run am_h201 2 (F' := (16, [(1, .int (v1 + 1)), (0, .ref 83)], [])) (S' := (am_sh, hx, w7.1, w7.2)) rfl ?_
      refine am_Rn.sub [1, 0] rfl rfl ?_
      exact ezM_isEnded_L16 hd R n (v1 + 1) w7 hp
    · obtain ⟨w8, h_w8, hp⟩ := am_b_e hp
      refine am_Rn.run am_h201 9 (F' := (91, [(0, .ref 83), (1, .int v1)], [.int 1])) (S' := (am_sh, hx, w8.1, w8.2)) (by subst h_w8; rfl) ?_
      cases hp
      exact am_Rn.ret am_h201 rfl
def zM_isEnded (w : zHM) : Option (Int32 × zHM) := if (w.1 84 6) = 24 then (some ((0, w))) else (zM_isEnded_L16 am_N 0 w)
set_option maxRecDepth 20000 in
theorem ezM_isEnded {d : Nat} (hd : 0 ≤ d) (w : zHM) (R : Int32 × zHM) (hp : zM_isEnded w = some R) : am_Ev 83 Xs am_P d 201 [.ref 83] (am_sh, hx, w.1, w.2) (some (.int R.1), (am_sh, hx, R.2.1, R.2.2)) := by
  unfold zM_isEnded at hp
  show am_Rn 83 Xs am_P _ 201 (0, [(0, .ref 83)], []) _ _
  refine am_Rn.run am_h201 5 (F' := (9, [(0, .ref 83)], [.int 24, .int (w.1 84 6)])) (S' := (am_sh, hx, w.1, w.2)) rfl ?_
  refine am_Rn.ite am_h201 (c := (w.1 84 6) = 24) (t := 12) (f := 14) (lv := [(0, .ref 83)]) (st := []) (S' := (am_sh, hx, w.1, w.2)) rfl hp (fun hc1 hp => ?_) (fun hc1 hp => ?_)
  · refine am_Rn.run am_h201 1 (F' := (13, [(0, .ref 83)], [.int 0])) (S' := (am_sh, hx, w.1, w.2)) rfl ?_
    cases hp
    exact am_Rn.ret am_h201 rfl
  · refine am_Rn.run am_h201 2 (F' := (16, [(1, .int 0), (0, .ref 83)], [])) (S' := (am_sh, hx, w.1, w.2)) rfl ?_
    refine am_Rn.sub [1, 0] rfl rfl ?_
    exact ezM_isEnded_L16 hd R am_N 0 w hp
/-- SixHandsModel.isPlayed(I)Z [83] -/
def zM_isPlayed_J226 (v2 : Int32) (w : zHM) : Option (Int32 × zHM) := am_b (34 + v2) fun x16 => am_ix 350 x16 (am_ix 350 x16 (am_b ((va_up w.1 84 (upd (w.1 84) (x16.toNatClampNeg) ((w.1 84 (x16.toNatClampNeg)) + 1)), w.2)) fun w19 => some ((1, w19))))
set_option maxRecDepth 20000 in
theorem ezM_isPlayed_J226 {d : Nat} (hd : 3 ≤ d) (R : Int32 × zHM) (v2 : Int32) (w : zHM) (hp : zM_isPlayed_J226 v2 w = some R) : am_Rn 83 Xs am_P d 200 (226, [(0, .ref 83), (2, .int v2)], []) (am_sh, hx, w.1, w.2) (some (.int R.1), (am_sh, hx, R.2.1, R.2.2)) := by
  obtain ⟨d, rfl⟩ : ∃ k, d = k + 1 := ⟨d - 1, by omega⟩
  unfold zM_isPlayed_J226 at hp
  obtain ⟨x16, h_x16, hp⟩ := am_b_e hp
  refine am_Rn.run am_h200 6 (F' := (235, [(0, .ref 83), (2, .int v2)], [.int x16, .ref 84, .int x16, .ref 84])) (S' := (am_sh, hx, w.1, w.2)) (by subst h_x16; rfl) ?_
  obtain ⟨hn17, hp⟩ := am_ix_e hp
  refine am_Rn.stepG am_h200 (c := x16 < 0 ∨ 350 ≤ x16.toNatClampNeg) (F' := (236, [(0, .ref 83), (2, .int v2)], [.int (w.1 84 (x16.toNatClampNeg)), .int x16, .ref 84])) (S' := (am_sh, hx, w.1, w.2)) rfl hn17 ?_
  refine am_Rn.run am_h200 2 (F' := (238, [(0, .ref 83), (2, .int v2)], [.int ((w.1 84 (x16.toNatClampNeg)) + 1), .int x16, .ref 84])) (S' := (am_sh, hx, w.1, w.2)) rfl ?_
  obtain ⟨hn18, hp⟩ := am_ix_e hp
  obtain ⟨w19, h_w19, hp⟩ := am_b_e hp
  refine am_Rn.stepG am_h200 (c := x16 < 0 ∨ 350 ≤ x16.toNatClampNeg) (F' := (239, [(0, .ref 83), (2, .int v2)], [])) (S' := (am_sh, hx, w19.1, w19.2)) (by subst h_w19; rfl) hn18 ?_
  refine am_Rn.run am_h200 1 (F' := (240, [(0, .ref 83), (2, .int v2)], [.int 1])) (S' := (am_sh, hx, w19.1, w19.2)) rfl ?_
  cases hp
  exact am_Rn.ret am_h200 rfl
def zM_isPlayed (v1 : Int32) (w : zHM) : Option (Int32 × zHM) := am_ix 3160 (v1 + 1) (am_b (w.1 86 ((v1 + 1).toNatClampNeg)) fun x2 => am_ix 3160 (v1 + 2) (am_b (w.1 86 ((v1 + 2).toNatClampNeg)) fun x4 => am_ix 3160 v1 (am_b (w.1 86 (v1.toNatClampNeg)) fun x6 => if x6 = 3 then (am_b (zM_isFigure x2 w) fun r8 => if r8 = 0 then (some ((0, w))) else ((zM_isOn x2 w).bind fun r10 => if r10 = 0 then (am_b (zM_isPlace x4 w) fun r12 => if r12 = 0 then (some ((0, w))) else (am_ix 350 (40 + x2) (am_b ((va_up w.1 84 (upd (w.1 84) ((40 + x2).toNatClampNeg) x4), w.2)) fun w15 => zM_isPlayed_J226 x2 w15))) else (some ((0, w))))) else if x6 = 4 then ((zM_isOn x2 w).bind fun r21 => if r21 = 0 then (some ((0, w))) else (am_ix 350 (40 + x2) (am_b ((va_up w.1 84 (upd (w.1 84) ((40 + x2).toNatClampNeg) (-1)), w.2)) fun w24 => zM_isPlayed_J226 x2 w24))) else if x6 = 5 then ((zM_isOn x2 w).bind fun r26 => if r26 = 0 then (some ((0, w))) else (am_b (zM_isPlace x4 w) fun r28 => if r28 = 0 then (some ((0, w))) else (am_ix 350 (40 + x2) (am_b ((va_up w.1 84 (upd (w.1 84) ((40 + x2).toNatClampNeg) x4), w.2)) fun w31 => zM_isPlayed_J226 x2 w31)))) else if x6 = 6 then (if x2 = x4 then (some ((0, w))) else ((zM_isOn x2 w).bind fun r34 => if r34 = 0 then (some ((0, w))) else ((zM_isOn x4 w).bind fun r36 => if r36 = 0 then (some ((0, w))) else (am_ix 350 (40 + x2) (am_ix 350 (40 + x4) (am_b (zM_isIn ((w.1 84 ((40 + x2).toNatClampNeg)) - (w.1 84 ((40 + x4).toNatClampNeg))) (-1) 1) fun r40 => if r40 = 0 then (some ((0, w))) else (am_b (34 + x4) fun x42 => am_ix 350 x42 (am_ix 350 x42 (am_b ((va_up w.1 84 (upd (w.1 84) (x42.toNatClampNeg) ((w.1 84 (x42.toNatClampNeg)) + 1)), w.2)) fun w45 => zM_isPlayed_J226 x2 w45))))))))) else if x6 = 7 then ((zM_isEnded w).bind fun r47 => some ((r47.1 &&& 1, r47.2))) else (some ((1, w))))))
set_option maxRecDepth 20000 in
theorem ezM_isPlayed {d : Nat} (hd : 3 ≤ d) (v1 : Int32) (w : zHM) (R : Int32 × zHM) (hp : zM_isPlayed v1 w = some R) : am_Ev 83 Xs am_P d 200 [.ref 83, .int v1] (am_sh, hx, w.1, w.2) (some (.int R.1), (am_sh, hx, R.2.1, R.2.2)) := by
  obtain ⟨d, rfl⟩ : ∃ k, d = k + 1 := ⟨d - 1, by omega⟩
  unfold zM_isPlayed at hp
  show am_Rn 83 Xs am_P _ 200 (0, [(0, .ref 83), (1, .int v1)], []) _ _
  refine am_Rn.run am_h200 5 (F' := (7, [(0, .ref 83), (1, .int v1)], [.int (v1 + 1), .ref 86])) (S' := (am_sh, hx, w.1, w.2)) rfl ?_
  obtain ⟨hn1, hp⟩ := am_ix_e hp
  refine am_Rn.stepG am_h200 (c := (v1 + 1) < 0 ∨ 3160 ≤ (v1 + 1).toNatClampNeg) (F' := (8, [(0, .ref 83), (1, .int v1)], [.int (w.1 86 ((v1 + 1).toNatClampNeg))])) (S' := (am_sh, hx, w.1, w.2)) rfl hn1 ?_
  obtain ⟨x2, h_x2, hp⟩ := am_b_e hp
  refine am_Rn.run am_h200 6 (F' := (16, [(2, .int x2), (0, .ref 83), (1, .int v1)], [.int (v1 + 2), .ref 86])) (S' := (am_sh, hx, w.1, w.2)) (by subst h_x2; rfl) ?_
  obtain ⟨hn3, hp⟩ := am_ix_e hp
  refine am_Rn.stepG am_h200 (c := (v1 + 2) < 0 ∨ 3160 ≤ (v1 + 2).toNatClampNeg) (F' := (17, [(2, .int x2), (0, .ref 83), (1, .int v1)], [.int (w.1 86 ((v1 + 2).toNatClampNeg))])) (S' := (am_sh, hx, w.1, w.2)) rfl hn3 ?_
  obtain ⟨x4, h_x4, hp⟩ := am_b_e hp
  refine am_Rn.run am_h200 4 (F' := (23, [(3, .int x4), (2, .int x2), (0, .ref 83), (1, .int v1)], [.int v1, .ref 86])) (S' := (am_sh, hx, w.1, w.2)) (by subst h_x4; rfl) ?_
  obtain ⟨hn5, hp⟩ := am_ix_e hp
  refine am_Rn.stepG am_h200 (c := v1 < 0 ∨ 3160 ≤ v1.toNatClampNeg) (F' := (24, [(3, .int x4), (2, .int x2), (0, .ref 83), (1, .int v1)], [.int (w.1 86 (v1.toNatClampNeg))])) (S' := (am_sh, hx, w.1, w.2)) rfl hn5 ?_
  obtain ⟨x6, h_x6, hp⟩ := am_b_e hp
  refine am_Rn.run am_h200 0 (F' := (24, [(3, .int x4), (2, .int x2), (0, .ref 83), (1, .int v1)], [.int x6])) (S' := (am_sh, hx, w.1, w.2)) (by subst h_x6; rfl) ?_
  refine am_Rn.step am_h200 (F' := (am_sw x6 3 224 [60, 99, 122, 153, 219], [(3, .int x4), (2, .int x2), (0, .ref 83), (1, .int v1)], [])) (S' := (am_sh, hx, w.1, w.2)) rfl ?_
  refine am_ite hp (fun hc7 hp => ?_) (fun hc7 hp => ?_)
  · rw [show am_sw x6 3 224 [60, 99, 122, 153, 219] = 60 from by subst hc7; rfl]
    refine am_Rn.run am_h200 2 (F' := (62, [(3, .int x4), (2, .int x2), (0, .ref 83), (1, .int v1)], [.int x2, .ref 83])) (S' := (am_sh, hx, w.1, w.2)) rfl ?_
    obtain ⟨r8, h_r8, hp⟩ := am_b_e hp
    refine am_Rn.call am_h200 (mj := 154) (As := [.ref 83, .int x2]) (F' := (65, [(3, .int x4), (2, .int x2), (0, .ref 83), (1, .int v1)], [])) (M' := am_m154) (r := some (.int r8)) (S1 := (am_sh, hx, w.1, w.2)) rfl am_h154 rfl (by subst h_r8; exact (ezM_isFigure (by omega) x2 w)) ?_
    refine am_Rn.ite am_h200 (c := r8 = 0) (t := 84) (f := 68) (lv := [(3, .int x4), (2, .int x2), (0, .ref 83), (1, .int v1)]) (st := []) (S' := (am_sh, hx, w.1, w.2)) rfl hp (fun hc9 hp => ?_) (fun hc9 hp => ?_)
    · refine am_Rn.run am_h200 1 (F' := (85, [(3, .int x4), (2, .int x2), (0, .ref 83), (1, .int v1)], [.int 0])) (S' := (am_sh, hx, w.1, w.2)) rfl ?_
      cases hp
      exact am_Rn.ret am_h200 rfl
    · refine am_Rn.run am_h200 2 (F' := (70, [(3, .int x4), (2, .int x2), (0, .ref 83), (1, .int v1)], [.int x2, .ref 83])) (S' := (am_sh, hx, w.1, w.2)) rfl ?_
      obtain ⟨r10, h_r10, hp⟩ := am_bind hp
      refine am_Rn.call am_h200 (mj := 199) (As := [.ref 83, .int x2]) (F' := (73, [(3, .int x4), (2, .int x2), (0, .ref 83), (1, .int v1)], [])) (M' := am_m199) (r := some (.int r10)) (S1 := (am_sh, hx, w.1, w.2)) rfl am_h199 rfl (ezM_isOn (by omega) x2 w _ h_r10) ?_
      refine am_Rn.ite am_h200 (c := r10 = 0) (t := 76) (f := 84) (lv := [(3, .int x4), (2, .int x2), (0, .ref 83), (1, .int v1)]) (st := []) (S' := (am_sh, hx, w.1, w.2)) rfl hp (fun hc11 hp => ?_) (fun hc11 hp => ?_)
      · refine am_Rn.run am_h200 2 (F' := (78, [(3, .int x4), (2, .int x2), (0, .ref 83), (1, .int v1)], [.int x4, .ref 83])) (S' := (am_sh, hx, w.1, w.2)) rfl ?_
        obtain ⟨r12, h_r12, hp⟩ := am_b_e hp
        refine am_Rn.call am_h200 (mj := 153) (As := [.ref 83, .int x4]) (F' := (81, [(3, .int x4), (2, .int x2), (0, .ref 83), (1, .int v1)], [])) (M' := am_m153) (r := some (.int r12)) (S1 := (am_sh, hx, w.1, w.2)) rfl am_h153 rfl (by subst h_r12; exact (ezM_isPlace (by omega) x4 w)) ?_
        refine am_Rn.ite am_h200 (c := r12 = 0) (t := 84) (f := 86) (lv := [(3, .int x4), (2, .int x2), (0, .ref 83), (1, .int v1)]) (st := []) (S' := (am_sh, hx, w.1, w.2)) rfl hp (fun hc13 hp => ?_) (fun hc13 hp => ?_)
        · refine am_Rn.run am_h200 1 (F' := (85, [(3, .int x4), (2, .int x2), (0, .ref 83), (1, .int v1)], [.int 0])) (S' := (am_sh, hx, w.1, w.2)) rfl ?_
          cases hp
          exact am_Rn.ret am_h200 rfl
        · refine am_Rn.run am_h200 6 (F' := (95, [(3, .int x4), (2, .int x2), (0, .ref 83), (1, .int v1)], [.int x4, .int (40 + x2), .ref 84])) (S' := (am_sh, hx, w.1, w.2)) rfl ?_
          obtain ⟨hn14, hp⟩ := am_ix_e hp
          obtain ⟨w15, h_w15, hp⟩ := am_b_e hp
          refine am_Rn.stepG am_h200 (c := (40 + x2) < 0 ∨ 350 ≤ (40 + x2).toNatClampNeg) (F' := (96, [(3, .int x4), (2, .int x2), (0, .ref 83), (1, .int v1)], [])) (S' := (am_sh, hx, w15.1, w15.2)) (by subst h_w15; rfl) hn14 ?_
          refine am_Rn.run am_h200 1 (F' := (226, [(3, .int x4), (2, .int x2), (0, .ref 83), (1, .int v1)], [])) (S' := (am_sh, hx, w15.1, w15.2)) rfl ?_
          refine am_Rn.sub [2, 1] rfl rfl ?_
          exact ezM_isPlayed_J226 hd R x2 w15 hp
      · refine am_Rn.run am_h200 1 (F' := (85, [(3, .int x4), (2, .int x2), (0, .ref 83), (1, .int v1)], [.int 0])) (S' := (am_sh, hx, w.1, w.2)) rfl ?_
        cases hp
        exact am_Rn.ret am_h200 rfl
  refine am_ite hp (fun hc20 hp => ?_) (fun hc20 hp => ?_)
  · rw [show am_sw x6 3 224 [60, 99, 122, 153, 219] = 99 from by subst hc20; rfl]
    refine am_Rn.run am_h200 2 (F' := (101, [(3, .int x4), (2, .int x2), (0, .ref 83), (1, .int v1)], [.int x2, .ref 83])) (S' := (am_sh, hx, w.1, w.2)) rfl ?_
    obtain ⟨r21, h_r21, hp⟩ := am_bind hp
    refine am_Rn.call am_h200 (mj := 199) (As := [.ref 83, .int x2]) (F' := (104, [(3, .int x4), (2, .int x2), (0, .ref 83), (1, .int v1)], [])) (M' := am_m199) (r := some (.int r21)) (S1 := (am_sh, hx, w.1, w.2)) rfl am_h199 rfl (ezM_isOn (by omega) x2 w _ h_r21) ?_
    refine am_Rn.ite am_h200 (c := r21 = 0) (t := 107) (f := 109) (lv := [(3, .int x4), (2, .int x2), (0, .ref 83), (1, .int v1)]) (st := []) (S' := (am_sh, hx, w.1, w.2)) rfl hp (fun hc22 hp => ?_) (fun hc22 hp => ?_)
    · refine am_Rn.run am_h200 1 (F' := (108, [(3, .int x4), (2, .int x2), (0, .ref 83), (1, .int v1)], [.int 0])) (S' := (am_sh, hx, w.1, w.2)) rfl ?_
      cases hp
      exact am_Rn.ret am_h200 rfl
    · refine am_Rn.run am_h200 6 (F' := (118, [(3, .int x4), (2, .int x2), (0, .ref 83), (1, .int v1)], [.int (-1), .int (40 + x2), .ref 84])) (S' := (am_sh, hx, w.1, w.2)) rfl ?_
      obtain ⟨hn23, hp⟩ := am_ix_e hp
      obtain ⟨w24, h_w24, hp⟩ := am_b_e hp
      refine am_Rn.stepG am_h200 (c := (40 + x2) < 0 ∨ 350 ≤ (40 + x2).toNatClampNeg) (F' := (119, [(3, .int x4), (2, .int x2), (0, .ref 83), (1, .int v1)], [])) (S' := (am_sh, hx, w24.1, w24.2)) (by subst h_w24; rfl) hn23 ?_
      refine am_Rn.run am_h200 1 (F' := (226, [(3, .int x4), (2, .int x2), (0, .ref 83), (1, .int v1)], [])) (S' := (am_sh, hx, w24.1, w24.2)) rfl ?_
      refine am_Rn.sub [2, 1] rfl rfl ?_
      exact ezM_isPlayed_J226 hd R x2 w24 hp
  refine am_ite hp (fun hc25 hp => ?_) (fun hc25 hp => ?_)
  · rw [show am_sw x6 3 224 [60, 99, 122, 153, 219] = 122 from by subst hc25; rfl]
    refine am_Rn.run am_h200 2 (F' := (124, [(3, .int x4), (2, .int x2), (0, .ref 83), (1, .int v1)], [.int x2, .ref 83])) (S' := (am_sh, hx, w.1, w.2)) rfl ?_
    obtain ⟨r26, h_r26, hp⟩ := am_bind hp
    refine am_Rn.call am_h200 (mj := 199) (As := [.ref 83, .int x2]) (F' := (127, [(3, .int x4), (2, .int x2), (0, .ref 83), (1, .int v1)], [])) (M' := am_m199) (r := some (.int r26)) (S1 := (am_sh, hx, w.1, w.2)) rfl am_h199 rfl (ezM_isOn (by omega) x2 w _ h_r26) ?_
    refine am_Rn.ite am_h200 (c := r26 = 0) (t := 138) (f := 130) (lv := [(3, .int x4), (2, .int x2), (0, .ref 83), (1, .int v1)]) (st := []) (S' := (am_sh, hx, w.1, w.2)) rfl hp (fun hc27 hp => ?_) (fun hc27 hp => ?_)
    · refine am_Rn.run am_h200 1 (F' := (139, [(3, .int x4), (2, .int x2), (0, .ref 83), (1, .int v1)], [.int 0])) (S' := (am_sh, hx, w.1, w.2)) rfl ?_
      cases hp
      exact am_Rn.ret am_h200 rfl
    · refine am_Rn.run am_h200 2 (F' := (132, [(3, .int x4), (2, .int x2), (0, .ref 83), (1, .int v1)], [.int x4, .ref 83])) (S' := (am_sh, hx, w.1, w.2)) rfl ?_
      obtain ⟨r28, h_r28, hp⟩ := am_b_e hp
      refine am_Rn.call am_h200 (mj := 153) (As := [.ref 83, .int x4]) (F' := (135, [(3, .int x4), (2, .int x2), (0, .ref 83), (1, .int v1)], [])) (M' := am_m153) (r := some (.int r28)) (S1 := (am_sh, hx, w.1, w.2)) rfl am_h153 rfl (by subst h_r28; exact (ezM_isPlace (by omega) x4 w)) ?_
      refine am_Rn.ite am_h200 (c := r28 = 0) (t := 138) (f := 140) (lv := [(3, .int x4), (2, .int x2), (0, .ref 83), (1, .int v1)]) (st := []) (S' := (am_sh, hx, w.1, w.2)) rfl hp (fun hc29 hp => ?_) (fun hc29 hp => ?_)
      · refine am_Rn.run am_h200 1 (F' := (139, [(3, .int x4), (2, .int x2), (0, .ref 83), (1, .int v1)], [.int 0])) (S' := (am_sh, hx, w.1, w.2)) rfl ?_
        cases hp
        exact am_Rn.ret am_h200 rfl
      · refine am_Rn.run am_h200 6 (F' := (149, [(3, .int x4), (2, .int x2), (0, .ref 83), (1, .int v1)], [.int x4, .int (40 + x2), .ref 84])) (S' := (am_sh, hx, w.1, w.2)) rfl ?_
        obtain ⟨hn30, hp⟩ := am_ix_e hp
        obtain ⟨w31, h_w31, hp⟩ := am_b_e hp
        refine am_Rn.stepG am_h200 (c := (40 + x2) < 0 ∨ 350 ≤ (40 + x2).toNatClampNeg) (F' := (150, [(3, .int x4), (2, .int x2), (0, .ref 83), (1, .int v1)], [])) (S' := (am_sh, hx, w31.1, w31.2)) (by subst h_w31; rfl) hn30 ?_
        refine am_Rn.run am_h200 1 (F' := (226, [(3, .int x4), (2, .int x2), (0, .ref 83), (1, .int v1)], [])) (S' := (am_sh, hx, w31.1, w31.2)) rfl ?_
        refine am_Rn.sub [2, 1] rfl rfl ?_
        exact ezM_isPlayed_J226 hd R x2 w31 hp
  refine am_ite hp (fun hc32 hp => ?_) (fun hc32 hp => ?_)
  · rw [show am_sw x6 3 224 [60, 99, 122, 153, 219] = 153 from by subst hc32; rfl]
    refine am_Rn.run am_h200 2 (F' := (155, [(3, .int x4), (2, .int x2), (0, .ref 83), (1, .int v1)], [.int x4, .int x2])) (S' := (am_sh, hx, w.1, w.2)) rfl ?_
    refine am_Rn.ite am_h200 (c := x2 = x4) (t := 201) (f := 158) (lv := [(3, .int x4), (2, .int x2), (0, .ref 83), (1, .int v1)]) (st := []) (S' := (am_sh, hx, w.1, w.2)) rfl hp (fun hc33 hp => ?_) (fun hc33 hp => ?_)
    · refine am_Rn.run am_h200 1 (F' := (202, [(3, .int x4), (2, .int x2), (0, .ref 83), (1, .int v1)], [.int 0])) (S' := (am_sh, hx, w.1, w.2)) rfl ?_
      cases hp
      exact am_Rn.ret am_h200 rfl
    · refine am_Rn.run am_h200 2 (F' := (160, [(3, .int x4), (2, .int x2), (0, .ref 83), (1, .int v1)], [.int x2, .ref 83])) (S' := (am_sh, hx, w.1, w.2)) rfl ?_
      obtain ⟨r34, h_r34, hp⟩ := am_bind hp
      refine am_Rn.call am_h200 (mj := 199) (As := [.ref 83, .int x2]) (F' := (163, [(3, .int x4), (2, .int x2), (0, .ref 83), (1, .int v1)], [])) (M' := am_m199) (r := some (.int r34)) (S1 := (am_sh, hx, w.1, w.2)) rfl am_h199 rfl (ezM_isOn (by omega) x2 w _ h_r34) ?_
      refine am_Rn.ite am_h200 (c := r34 = 0) (t := 201) (f := 166) (lv := [(3, .int x4), (2, .int x2), (0, .ref 83), (1, .int v1)]) (st := []) (S' := (am_sh, hx, w.1, w.2)) rfl hp (fun hc35 hp => ?_) (fun hc35 hp => ?_)
      · refine am_Rn.run am_h200 1 (F' := (202, [(3, .int x4), (2, .int x2), (0, .ref 83), (1, .int v1)], [.int 0])) (S' := (am_sh, hx, w.1, w.2)) rfl ?_
        cases hp
        exact am_Rn.ret am_h200 rfl
      · refine am_Rn.run am_h200 2 (F' := (168, [(3, .int x4), (2, .int x2), (0, .ref 83), (1, .int v1)], [.int x4, .ref 83])) (S' := (am_sh, hx, w.1, w.2)) rfl ?_
        obtain ⟨r36, h_r36, hp⟩ := am_bind hp
        refine am_Rn.call am_h200 (mj := 199) (As := [.ref 83, .int x4]) (F' := (171, [(3, .int x4), (2, .int x2), (0, .ref 83), (1, .int v1)], [])) (M' := am_m199) (r := some (.int r36)) (S1 := (am_sh, hx, w.1, w.2)) rfl am_h199 rfl (ezM_isOn (by omega) x4 w _ h_r36) ?_
        refine am_Rn.ite am_h200 (c := r36 = 0) (t := 201) (f := 174) (lv := [(3, .int x4), (2, .int x2), (0, .ref 83), (1, .int v1)]) (st := []) (S' := (am_sh, hx, w.1, w.2)) rfl hp (fun hc37 hp => ?_) (fun hc37 hp => ?_)
        · refine am_Rn.run am_h200 1 (F' := (202, [(3, .int x4), (2, .int x2), (0, .ref 83), (1, .int v1)], [.int 0])) (S' := (am_sh, hx, w.1, w.2)) rfl ?_
          cases hp
          exact am_Rn.ret am_h200 rfl
        · refine am_Rn.run am_h200 5 (F' := (182, [(3, .int x4), (2, .int x2), (0, .ref 83), (1, .int v1)], [.int (40 + x2), .ref 84])) (S' := (am_sh, hx, w.1, w.2)) rfl ?_
          obtain ⟨hn38, hp⟩ := am_ix_e hp
          refine am_Rn.stepG am_h200 (c := (40 + x2) < 0 ∨ 350 ≤ (40 + x2).toNatClampNeg) (F' := (183, [(3, .int x4), (2, .int x2), (0, .ref 83), (1, .int v1)], [.int (w.1 84 ((40 + x2).toNatClampNeg))])) (S' := (am_sh, hx, w.1, w.2)) rfl hn38 ?_
          refine am_Rn.run am_h200 5 (F' := (191, [(3, .int x4), (2, .int x2), (0, .ref 83), (1, .int v1)], [.int (40 + x4), .ref 84, .int (w.1 84 ((40 + x2).toNatClampNeg))])) (S' := (am_sh, hx, w.1, w.2)) rfl ?_
          obtain ⟨hn39, hp⟩ := am_ix_e hp
          refine am_Rn.stepG am_h200 (c := (40 + x4) < 0 ∨ 350 ≤ (40 + x4).toNatClampNeg) (F' := (192, [(3, .int x4), (2, .int x2), (0, .ref 83), (1, .int v1)], [.int (w.1 84 ((40 + x4).toNatClampNeg)), .int (w.1 84 ((40 + x2).toNatClampNeg))])) (S' := (am_sh, hx, w.1, w.2)) rfl hn39 ?_
          refine am_Rn.run am_h200 3 (F' := (195, [(3, .int x4), (2, .int x2), (0, .ref 83), (1, .int v1)], [.int 1, .int (-1), .int ((w.1 84 ((40 + x2).toNatClampNeg)) - (w.1 84 ((40 + x4).toNatClampNeg)))])) (S' := (am_sh, hx, w.1, w.2)) rfl ?_
          obtain ⟨r40, h_r40, hp⟩ := am_b_e hp
          refine am_Rn.call am_h200 (mj := 152) (As := [.int ((w.1 84 ((40 + x2).toNatClampNeg)) - (w.1 84 ((40 + x4).toNatClampNeg))), .int (-1), .int 1]) (F' := (198, [(3, .int x4), (2, .int x2), (0, .ref 83), (1, .int v1)], [])) (M' := am_m152) (r := some (.int r40)) (S1 := (am_sh, hx, w.1, w.2)) rfl am_h152 rfl (by subst h_r40; exact (ezM_isIn (by omega) ((w.1 84 ((40 + x2).toNatClampNeg)) - (w.1 84 ((40 + x4).toNatClampNeg))) (-1) 1)) ?_
          refine am_Rn.ite am_h200 (c := r40 = 0) (t := 201) (f := 203) (lv := [(3, .int x4), (2, .int x2), (0, .ref 83), (1, .int v1)]) (st := []) (S' := (am_sh, hx, w.1, w.2)) rfl hp (fun hc41 hp => ?_) (fun hc41 hp => ?_)
          · refine am_Rn.run am_h200 1 (F' := (202, [(3, .int x4), (2, .int x2), (0, .ref 83), (1, .int v1)], [.int 0])) (S' := (am_sh, hx, w.1, w.2)) rfl ?_
            cases hp
            exact am_Rn.ret am_h200 rfl
          · obtain ⟨x42, h_x42, hp⟩ := am_b_e hp
            refine am_Rn.run am_h200 6 (F' := (212, [(3, .int x4), (2, .int x2), (0, .ref 83), (1, .int v1)], [.int x42, .ref 84, .int x42, .ref 84])) (S' := (am_sh, hx, w.1, w.2)) (by subst h_x42; rfl) ?_
            obtain ⟨hn43, hp⟩ := am_ix_e hp
            refine am_Rn.stepG am_h200 (c := x42 < 0 ∨ 350 ≤ x42.toNatClampNeg) (F' := (213, [(3, .int x4), (2, .int x2), (0, .ref 83), (1, .int v1)], [.int (w.1 84 (x42.toNatClampNeg)), .int x42, .ref 84])) (S' := (am_sh, hx, w.1, w.2)) rfl hn43 ?_
            refine am_Rn.run am_h200 2 (F' := (215, [(3, .int x4), (2, .int x2), (0, .ref 83), (1, .int v1)], [.int ((w.1 84 (x42.toNatClampNeg)) + 1), .int x42, .ref 84])) (S' := (am_sh, hx, w.1, w.2)) rfl ?_
            obtain ⟨hn44, hp⟩ := am_ix_e hp
            obtain ⟨w45, h_w45, hp⟩ := am_b_e hp
            refine am_Rn.stepG am_h200 (c := x42 < 0 ∨ 350 ≤ x42.toNatClampNeg) (F' := (216, [(3, .int x4), (2, .int x2), (0, .ref 83), (1, .int v1)], [])) (S' := (am_sh, hx, w45.1, w45.2)) (by subst h_w45; rfl) hn44 ?_
            refine am_Rn.run am_h200 1 (F' := (226, [(3, .int x4), (2, .int x2), (0, .ref 83), (1, .int v1)], [])) (S' := (am_sh, hx, w45.1, w45.2)) rfl ?_
            refine am_Rn.sub [2, 1] rfl rfl ?_
            exact ezM_isPlayed_J226 hd R x2 w45 hp
  refine am_ite hp (fun hc46 hp => ?_) (fun hc46 hp => ?_)
  · rw [show am_sw x6 3 224 [60, 99, 122, 153, 219] = 219 from by subst hc46; rfl]
    refine am_Rn.run am_h200 1 (F' := (220, [(3, .int x4), (2, .int x2), (0, .ref 83), (1, .int v1)], [.ref 83])) (S' := (am_sh, hx, w.1, w.2)) rfl ?_
    obtain ⟨r47, h_r47, hp⟩ := am_bind hp
    refine am_Rn.call am_h200 (mj := 201) (As := [.ref 83]) (F' := (223, [(3, .int x4), (2, .int x2), (0, .ref 83), (1, .int v1)], [])) (M' := am_m201) (r := some (.int r47.1)) (S1 := (am_sh, hx, r47.2.1, r47.2.2)) rfl am_h201 rfl (ezM_isEnded (by omega) w _ h_r47) ?_
    cases hp
    exact am_Rn.ret am_h200 rfl
  · rw [show am_sw x6 3 224 [60, 99, 122, 153, 219] = 224 from (if_neg hc7).trans ((if_neg hc20).trans ((if_neg hc25).trans ((if_neg hc32).trans ((if_neg hc46).trans (rfl)))))]
    refine am_Rn.run am_h200 1 (F' := (225, [(3, .int x4), (2, .int x2), (0, .ref 83), (1, .int v1)], [.int 1])) (S' := (am_sh, hx, w.1, w.2)) rfl ?_
    cases hp
    exact am_Rn.ret am_h200 rfl
/-- SixHandsModel.played(I)I [83] -/
def zM_played_L21 : Nat → Int32 → Int32 → zHM → Option (Int32 × zHM)
  | 0, _, _, _ => none
  | n + 1, v1, v2, w => am_ix 3160 (790 * v1) (if v2 < (w.1 86 ((790 * v1).toNatClampNeg)) then ((zM_isPlayed (((790 * v1) + 1) + (3 * v2)) w).bind fun r5 => if r5.1 = 0 then (some ((v2, r5.2))) else (zM_played_L21 n v1 (v2 + 1) r5.2)) else (some (((-1), w))))
set_option maxRecDepth 20000 in
theorem ezM_played_L21 {d : Nat} (hd : 4 ≤ d) (R : Int32 × zHM) : ∀ (n : Nat) (v1 : Int32) (v2 : Int32) (w : zHM), zM_played_L21 n v1 v2 w = some R → am_Rn 83 Xs am_P d 202 (21, [(0, .ref 83), (1, .int v1), (2, .int v2)], []) (am_sh, hx, w.1, w.2) (some (.int R.1), (am_sh, hx, R.2.1, R.2.2))
  | 0, _, _, _, hp => by cases hp
  | n + 1, v1, v2, w, hp => by
    obtain ⟨d, rfl⟩ : ∃ k, d = k + 1 := ⟨d - 1, by omega⟩
    unfold zM_played_L21 at hp
    refine am_Rn.run am_h202 6 (F' := (31, [(0, .ref 83), (1, .int v1), (2, .int v2)], [.int (790 * v1), .ref 86, .int v2])) (S' := (am_sh, hx, w.1, w.2)) rfl ?_
    obtain ⟨hn3, hp⟩ := am_ix_e hp
    refine am_Rn.stepG am_h202 (c := (790 * v1) < 0 ∨ 3160 ≤ (790 * v1).toNatClampNeg) (F' := (32, [(0, .ref 83), (1, .int v1), (2, .int v2)], [.int (w.1 86 ((790 * v1).toNatClampNeg)), .int v2])) (S' := (am_sh, hx, w.1, w.2)) rfl hn3 ?_
    refine am_Rn.ite am_h202 (c := v2 < (w.1 86 ((790 * v1).toNatClampNeg))) (t := 35) (f := 61) (lv := [(0, .ref 83), (1, .int v1), (2, .int v2)]) (st := []) (S' := (am_sh, hx, w.1, w.2)) rfl hp (fun hc4 hp => ?_) (fun hc4 hp => ?_)
    · refine am_Rn.run am_h202 10 (F' := (47, [(0, .ref 83), (1, .int v1), (2, .int v2)], [.int (((790 * v1) + 1) + (3 * v2)), .ref 83])) (S' := (am_sh, hx, w.1, w.2)) rfl ?_
      obtain ⟨r5, h_r5, hp⟩ := am_bind hp
      refine am_Rn.call am_h202 (mj := 200) (As := [.ref 83, .int (((790 * v1) + 1) + (3 * v2))]) (F' := (50, [(0, .ref 83), (1, .int v1), (2, .int v2)], [])) (M' := am_m200) (r := some (.int r5.1)) (S1 := (am_sh, hx, r5.2.1, r5.2.2)) rfl am_h200 rfl (ezM_isPlayed (by omega) (((790 * v1) + 1) + (3 * v2)) w _ h_r5) ?_
      refine am_Rn.ite am_h202 (c := r5.1 = 0) (t := 53) (f := 55) (lv := [(0, .ref 83), (1, .int v1), (2, .int v2)]) (st := []) (S' := (am_sh, hx, r5.2.1, r5.2.2)) rfl hp (fun hc6 hp => ?_) (fun hc6 hp => ?_)
      · refine am_Rn.run am_h202 1 (F' := (54, [(0, .ref 83), (1, .int v1), (2, .int v2)], [.int v2])) (S' := (am_sh, hx, r5.2.1, r5.2.2)) rfl ?_
        cases hp
        exact am_Rn.ret am_h202 rfl
      · refine am_Rn.run am_h202 2 (F' := (21, [(2, .int (v2 + 1)), (0, .ref 83), (1, .int v1)], [])) (S' := (am_sh, hx, r5.2.1, r5.2.2)) rfl ?_
        refine am_Rn.sub [1, 2, 0] rfl rfl ?_
        exact ezM_played_L21 hd R n v1 (v2 + 1) r5.2 hp
    · refine am_Rn.run am_h202 1 (F' := (62, [(0, .ref 83), (1, .int v1), (2, .int v2)], [.int (-1)])) (S' := (am_sh, hx, w.1, w.2)) rfl ?_
      cases hp
      exact am_Rn.ret am_h202 rfl
def zM_played (v1 : Int32) (w : zHM) : Option (Int32 × zHM) := am_b (zM_isIn v1 0 ((w.1 84 4) - 1)) fun r1 => if r1 = 0 then (some (((-2), w))) else (zM_played_L21 am_N v1 0 w)
set_option maxRecDepth 20000 in
theorem ezM_played {d : Nat} (hd : 4 ≤ d) (v1 : Int32) (w : zHM) (R : Int32 × zHM) (hp : zM_played v1 w = some R) : am_Ev 83 Xs am_P d 202 [.ref 83, .int v1] (am_sh, hx, w.1, w.2) (some (.int R.1), (am_sh, hx, R.2.1, R.2.2)) := by
  obtain ⟨d, rfl⟩ : ∃ k, d = k + 1 := ⟨d - 1, by omega⟩
  unfold zM_played at hp
  show am_Rn 83 Xs am_P _ 202 (0, [(0, .ref 83), (1, .int v1)], []) _ _
  refine am_Rn.run am_h202 8 (F' := (10, [(0, .ref 83), (1, .int v1)], [.int ((w.1 84 4) - 1), .int 0, .int v1])) (S' := (am_sh, hx, w.1, w.2)) rfl ?_
  obtain ⟨r1, h_r1, hp⟩ := am_b_e hp
  refine am_Rn.call am_h202 (mj := 152) (As := [.int v1, .int 0, .int ((w.1 84 4) - 1)]) (F' := (13, [(0, .ref 83), (1, .int v1)], [])) (M' := am_m152) (r := some (.int r1)) (S1 := (am_sh, hx, w.1, w.2)) rfl am_h152 rfl (by subst h_r1; exact (ezM_isIn (by omega) v1 0 ((w.1 84 4) - 1))) ?_
  refine am_Rn.ite am_h202 (c := r1 = 0) (t := 16) (f := 19) (lv := [(0, .ref 83), (1, .int v1)]) (st := []) (S' := (am_sh, hx, w.1, w.2)) rfl hp (fun hc2 hp => ?_) (fun hc2 hp => ?_)
  · refine am_Rn.run am_h202 1 (F' := (18, [(0, .ref 83), (1, .int v1)], [.int (-2)])) (S' := (am_sh, hx, w.1, w.2)) rfl ?_
    cases hp
    exact am_Rn.ret am_h202 rfl
  · refine am_Rn.run am_h202 2 (F' := (21, [(2, .int 0), (0, .ref 83), (1, .int v1)], [])) (S' := (am_sh, hx, w.1, w.2)) rfl ?_
    refine am_Rn.sub [1, 2, 0] rfl rfl ?_
    exact ezM_played_L21 hd R am_N v1 0 w hp
/-- SixHandsModel.clear()I [83] -/
def zM_clear_L18 : Nat → Int32 → Int32 → zHM → Option (Int32 × zHM)
  | 0, _, _, _ => none
  | n + 1, v1, v2, w => if v2 < 6 then (am_ix 350 (34 + v2) (am_b ((va_up w.1 84 (upd (w.1 84) ((34 + v2).toNatClampNeg) 0), w.2)) fun w5 => am_ix 350 (40 + v2) (am_b ((va_up w5.1 84 (upd (w5.1 84) ((40 + v2).toNatClampNeg) (-1)), w5.2)) fun w7 => zM_clear_L18 n v1 (v2 + 1) w7))) else (some ((v1, w)))
set_option maxRecDepth 20000 in
theorem ezM_clear_L18 {d : Nat} (hd : 0 ≤ d) (R : Int32 × zHM) : ∀ (n : Nat) (v1 : Int32) (v2 : Int32) (w : zHM), zM_clear_L18 n v1 v2 w = some R → am_Rn 83 Xs am_P d 203 (18, [(0, .ref 83), (1, .int v1), (2, .int v2)], []) (am_sh, hx, w.1, w.2) (some (.int R.1), (am_sh, hx, R.2.1, R.2.2))
  | 0, _, _, _, hp => by cases hp
  | n + 1, v1, v2, w, hp => by
    unfold zM_clear_L18 at hp
    refine am_Rn.run am_h203 2 (F' := (21, [(0, .ref 83), (1, .int v1), (2, .int v2)], [.int 6, .int v2])) (S' := (am_sh, hx, w.1, w.2)) rfl ?_
    refine am_Rn.ite am_h203 (c := v2 < 6) (t := 24) (f := 50) (lv := [(0, .ref 83), (1, .int v1), (2, .int v2)]) (st := []) (S' := (am_sh, hx, w.1, w.2)) rfl hp (fun hc3 hp => ?_) (fun hc3 hp => ?_)
    · refine am_Rn.run am_h203 6 (F' := (33, [(0, .ref 83), (1, .int v1), (2, .int v2)], [.int 0, .int (34 + v2), .ref 84])) (S' := (am_sh, hx, w.1, w.2)) rfl ?_
      obtain ⟨hn4, hp⟩ := am_ix_e hp
      obtain ⟨w5, h_w5, hp⟩ := am_b_e hp
      refine am_Rn.stepG am_h203 (c := (34 + v2) < 0 ∨ 350 ≤ (34 + v2).toNatClampNeg) (F' := (34, [(0, .ref 83), (1, .int v1), (2, .int v2)], [])) (S' := (am_sh, hx, w5.1, w5.2)) (by subst h_w5; rfl) hn4 ?_
      refine am_Rn.run am_h203 6 (F' := (43, [(0, .ref 83), (1, .int v1), (2, .int v2)], [.int (-1), .int (40 + v2), .ref 84])) (S' := (am_sh, hx, w5.1, w5.2)) rfl ?_
      obtain ⟨hn6, hp⟩ := am_ix_e hp
      obtain ⟨w7, h_w7, hp⟩ := am_b_e hp
      refine am_Rn.stepG am_h203 (c := (40 + v2) < 0 ∨ 350 ≤ (40 + v2).toNatClampNeg) (F' := (44, [(0, .ref 83), (1, .int v1), (2, .int v2)], [])) (S' := (am_sh, hx, w7.1, w7.2)) (by subst h_w7; rfl) hn6 ?_
      refine am_Rn.run am_h203 2 (F' := (18, [(2, .int (v2 + 1)), (0, .ref 83), (1, .int v1)], [])) (S' := (am_sh, hx, w7.1, w7.2)) rfl ?_
      refine am_Rn.sub [1, 2, 0] rfl rfl ?_
      exact ezM_clear_L18 hd R n v1 (v2 + 1) w7 hp
    · refine am_Rn.run am_h203 1 (F' := (51, [(0, .ref 83), (1, .int v1), (2, .int v2)], [.int v1])) (S' := (am_sh, hx, w.1, w.2)) rfl ?_
      cases hp
      exact am_Rn.ret am_h203 rfl
def zM_clear (w : zHM) : Option (Int32 × zHM) := am_b (w.1 84 6) fun x1 => am_b ((va_up w.1 84 (upd (w.1 84) 6 0), w.2)) fun w2 => zM_clear_L18 am_N x1 0 w2
set_option maxRecDepth 20000 in
theorem ezM_clear {d : Nat} (hd : 0 ≤ d) (w : zHM) (R : Int32 × zHM) (hp : zM_clear w = some R) : am_Ev 83 Xs am_P d 203 [.ref 83] (am_sh, hx, w.1, w.2) (some (.int R.1), (am_sh, hx, R.2.1, R.2.2)) := by
  unfold zM_clear at hp
  show am_Rn 83 Xs am_P _ 203 (0, [(0, .ref 83)], []) _ _
  obtain ⟨x1, h_x1, hp⟩ := am_b_e hp
  obtain ⟨w2, h_w2, hp⟩ := am_b_e hp
  refine am_Rn.run am_h203 12 (F' := (18, [(2, .int 0), (1, .int x1), (0, .ref 83)], [])) (S' := (am_sh, hx, w2.1, w2.2)) (by subst h_x1; subst h_w2; rfl) ?_
  refine am_Rn.sub [2, 1, 0] rfl rfl ?_
  exact ezM_clear_L18 hd R am_N x1 0 w2 hp
/-- SixHandsModel.placeOf(II)I [83] -/
def zM_placeOf (v1 : Int32) (v2 : Int32) (w : zHM) : Option (Int32) := am_ix 350 ((50 + (6 * v1)) + v2) (some (w.1 84 (((50 + (6 * v1)) + v2).toNatClampNeg)))
set_option maxRecDepth 20000 in
theorem ezM_placeOf {d : Nat} (hd : 0 ≤ d) (v1 : Int32) (v2 : Int32) (w : zHM) (R : Int32) (hp : zM_placeOf v1 v2 w = some R) : am_Ev 83 Xs am_P d 159 [.ref 83, .int v1, .int v2] (am_sh, hx, w.1, w.2) (some (.int R), (am_sh, hx, w.1, w.2)) := by
  unfold zM_placeOf at hp
  show am_Rn 83 Xs am_P _ 159 (0, [(0, .ref 83), (1, .int v1), (2, .int v2)], []) _ _
  refine am_Rn.run am_h159 9 (F' := (13, [(0, .ref 83), (1, .int v1), (2, .int v2)], [.int ((50 + (6 * v1)) + v2), .ref 84])) (S' := (am_sh, hx, w.1, w.2)) rfl ?_
  obtain ⟨hn1, hp⟩ := am_ix_e hp
  refine am_Rn.stepG am_h159 (c := ((50 + (6 * v1)) + v2) < 0 ∨ 350 ≤ ((50 + (6 * v1)) + v2).toNatClampNeg) (F' := (14, [(0, .ref 83), (1, .int v1), (2, .int v2)], [.int (w.1 84 (((50 + (6 * v1)) + v2).toNatClampNeg))])) (S' := (am_sh, hx, w.1, w.2)) rfl hn1 ?_
  cases hp
  exact am_Rn.ret am_h159 rfl
/-- SixHandsModel.isBeat(I)Z [83] -/
def zM_isBeat (v1 : Int32) (w : zHM) : Int32 := am_b (zM_isIn v1 0 ((w.1 84 6) - 1)) fun r1 => r1 &&& 1
set_option maxRecDepth 20000 in
theorem ezM_isBeat {d : Nat} (hd : 1 ≤ d) (v1 : Int32) (w : zHM) : am_Ev 83 Xs am_P d 155 [.ref 83, .int v1] (am_sh, hx, w.1, w.2) (some (.int ((zM_isBeat v1 w))), (am_sh, hx, w.1, w.2)) := by
  obtain ⟨R, hp⟩ : ∃ R, zM_isBeat v1 w = R := ⟨_, rfl⟩
  rw [hp]
  obtain ⟨d, rfl⟩ : ∃ k, d = k + 1 := ⟨d - 1, by omega⟩
  unfold zM_isBeat at hp
  show am_Rn 83 Xs am_P _ 155 (0, [(0, .ref 83), (1, .int v1)], []) _ _
  refine am_Rn.run am_h155 8 (F' := (11, [(0, .ref 83), (1, .int v1)], [.int ((w.1 84 6) - 1), .int 0, .int v1])) (S' := (am_sh, hx, w.1, w.2)) rfl ?_
  obtain ⟨r1, h_r1, hp⟩ := am_b_e hp
  refine am_Rn.call am_h155 (mj := 152) (As := [.int v1, .int 0, .int ((w.1 84 6) - 1)]) (F' := (14, [(0, .ref 83), (1, .int v1)], [])) (M' := am_m152) (r := some (.int r1)) (S1 := (am_sh, hx, w.1, w.2)) rfl am_h152 rfl (by subst h_r1; exact (ezM_isIn (by omega) v1 0 ((w.1 84 6) - 1))) ?_
  subst hp
  exact am_Rn.ret am_h155 rfl
/-- SixHandsModel.at(II)I [83] -/
def zM_at_J24 (v1 : Int32) (v2 : Int32) (w : zHM) : Option (Int32) := if v1 = (-1) then (am_ix 350 (40 + v2) (some (w.1 84 ((40 + v2).toNatClampNeg)))) else ((zM_placeOf v1 v2 w).bind fun r6 => some r6)
set_option maxRecDepth 20000 in
theorem ezM_at_J24 {d : Nat} (hd : 2 ≤ d) (R : Int32) (v1 : Int32) (v2 : Int32) (w : zHM) (hp : zM_at_J24 v1 v2 w = some R) : am_Rn 83 Xs am_P d 204 (24, [(0, .ref 83), (1, .int v1), (2, .int v2)], []) (am_sh, hx, w.1, w.2) (some (.int R), (am_sh, hx, w.1, w.2)) := by
  obtain ⟨d, rfl⟩ : ∃ k, d = k + 1 := ⟨d - 1, by omega⟩
  unfold zM_at_J24 at hp
  refine am_Rn.run am_h204 2 (F' := (26, [(0, .ref 83), (1, .int v1), (2, .int v2)], [.int (-1), .int v1])) (S' := (am_sh, hx, w.1, w.2)) rfl ?_
  refine am_Rn.ite am_h204 (c := v1 = (-1)) (t := 29) (f := 41) (lv := [(0, .ref 83), (1, .int v1), (2, .int v2)]) (st := []) (S' := (am_sh, hx, w.1, w.2)) rfl hp (fun hc4 hp => ?_) (fun hc4 hp => ?_)
  · refine am_Rn.run am_h204 5 (F' := (37, [(0, .ref 83), (1, .int v1), (2, .int v2)], [.int (40 + v2), .ref 84])) (S' := (am_sh, hx, w.1, w.2)) rfl ?_
    obtain ⟨hn5, hp⟩ := am_ix_e hp
    refine am_Rn.stepG am_h204 (c := (40 + v2) < 0 ∨ 350 ≤ (40 + v2).toNatClampNeg) (F' := (38, [(0, .ref 83), (1, .int v1), (2, .int v2)], [.int (w.1 84 ((40 + v2).toNatClampNeg))])) (S' := (am_sh, hx, w.1, w.2)) rfl hn5 ?_
    refine am_Rn.run am_h204 1 (F' := (47, [(0, .ref 83), (1, .int v1), (2, .int v2)], [.int (w.1 84 ((40 + v2).toNatClampNeg))])) (S' := (am_sh, hx, w.1, w.2)) rfl ?_
    cases hp
    exact am_Rn.ret am_h204 rfl
  · refine am_Rn.run am_h204 3 (F' := (44, [(0, .ref 83), (1, .int v1), (2, .int v2)], [.int v2, .int v1, .ref 83])) (S' := (am_sh, hx, w.1, w.2)) rfl ?_
    obtain ⟨r6, h_r6, hp⟩ := am_bind hp
    refine am_Rn.call am_h204 (mj := 159) (As := [.ref 83, .int v1, .int v2]) (F' := (47, [(0, .ref 83), (1, .int v1), (2, .int v2)], [])) (M' := am_m159) (r := some (.int r6)) (S1 := (am_sh, hx, w.1, w.2)) rfl am_h159 rfl (ezM_placeOf (by omega) v1 v2 w _ h_r6) ?_
    cases hp
    exact am_Rn.ret am_h204 rfl
def zM_at (v1 : Int32) (v2 : Int32) (w : zHM) : Option (Int32) := am_b (zM_isFigure v2 w) fun r1 => if r1 = 0 then (some (-2)) else (if v1 = (-1) then (zM_at_J24 v1 v2 w) else (am_b (zM_isBeat v1 w) fun r7 => if r7 = 0 then (some (-2)) else (zM_at_J24 v1 v2 w)))
set_option maxRecDepth 20000 in
theorem ezM_at {d : Nat} (hd : 2 ≤ d) (v1 : Int32) (v2 : Int32) (w : zHM) (R : Int32) (hp : zM_at v1 v2 w = some R) : am_Ev 83 Xs am_P d 204 [.ref 83, .int v1, .int v2] (am_sh, hx, w.1, w.2) (some (.int R), (am_sh, hx, w.1, w.2)) := by
  obtain ⟨d, rfl⟩ : ∃ k, d = k + 1 := ⟨d - 1, by omega⟩
  unfold zM_at at hp
  show am_Rn 83 Xs am_P _ 204 (0, [(0, .ref 83), (1, .int v1), (2, .int v2)], []) _ _
  refine am_Rn.run am_h204 2 (F' := (2, [(0, .ref 83), (1, .int v1), (2, .int v2)], [.int v2, .ref 83])) (S' := (am_sh, hx, w.1, w.2)) rfl ?_
  obtain ⟨r1, h_r1, hp⟩ := am_b_e hp
  refine am_Rn.call am_h204 (mj := 154) (As := [.ref 83, .int v2]) (F' := (5, [(0, .ref 83), (1, .int v1), (2, .int v2)], [])) (M' := am_m154) (r := some (.int r1)) (S1 := (am_sh, hx, w.1, w.2)) rfl am_h154 rfl (by subst h_r1; exact (ezM_isFigure (by omega) v2 w)) ?_
  refine am_Rn.ite am_h204 (c := r1 = 0) (t := 21) (f := 8) (lv := [(0, .ref 83), (1, .int v1), (2, .int v2)]) (st := []) (S' := (am_sh, hx, w.1, w.2)) rfl hp (fun hc2 hp => ?_) (fun hc2 hp => ?_)
  · refine am_Rn.run am_h204 1 (F' := (23, [(0, .ref 83), (1, .int v1), (2, .int v2)], [.int (-2)])) (S' := (am_sh, hx, w.1, w.2)) rfl ?_
    cases hp
    exact am_Rn.ret am_h204 rfl
  · refine am_Rn.run am_h204 2 (F' := (10, [(0, .ref 83), (1, .int v1), (2, .int v2)], [.int (-1), .int v1])) (S' := (am_sh, hx, w.1, w.2)) rfl ?_
    refine am_Rn.ite am_h204 (c := v1 = (-1)) (t := 24) (f := 13) (lv := [(0, .ref 83), (1, .int v1), (2, .int v2)]) (st := []) (S' := (am_sh, hx, w.1, w.2)) rfl hp (fun hc3 hp => ?_) (fun hc3 hp => ?_)
    · exact ezM_at_J24 hd R v1 v2 w hp
    · refine am_Rn.run am_h204 2 (F' := (15, [(0, .ref 83), (1, .int v1), (2, .int v2)], [.int v1, .ref 83])) (S' := (am_sh, hx, w.1, w.2)) rfl ?_
      obtain ⟨r7, h_r7, hp⟩ := am_b_e hp
      refine am_Rn.call am_h204 (mj := 155) (As := [.ref 83, .int v1]) (F' := (18, [(0, .ref 83), (1, .int v1), (2, .int v2)], [])) (M' := am_m155) (r := some (.int r7)) (S1 := (am_sh, hx, w.1, w.2)) rfl am_h155 rfl (by subst h_r7; exact (ezM_isBeat (by omega) v1 w)) ?_
      refine am_Rn.ite am_h204 (c := r7 = 0) (t := 21) (f := 24) (lv := [(0, .ref 83), (1, .int v1), (2, .int v2)]) (st := []) (S' := (am_sh, hx, w.1, w.2)) rfl hp (fun hc8 hp => ?_) (fun hc8 hp => ?_)
      · refine am_Rn.run am_h204 1 (F' := (23, [(0, .ref 83), (1, .int v1), (2, .int v2)], [.int (-2)])) (S' := (am_sh, hx, w.1, w.2)) rfl ?_
        cases hp
        exact am_Rn.ret am_h204 rfl
      · exact ezM_at_J24 hd R v1 v2 w hp
/-- SixHandsModel.hands()I [83] -/
def zM_hands (w : zHM) : Int32 := 2 * (w.1 84 0)
set_option maxRecDepth 20000 in
theorem ezM_hands {d : Nat} (hd : 0 ≤ d) (w : zHM) : am_Ev 83 Xs am_P d 156 [.ref 83] (am_sh, hx, w.1, w.2) (some (.int ((zM_hands w))), (am_sh, hx, w.1, w.2)) := by
  obtain ⟨R, hp⟩ : ∃ R, zM_hands w = R := ⟨_, rfl⟩
  rw [hp]
  unfold zM_hands at hp
  show am_Rn 83 Xs am_P _ 156 (0, [(0, .ref 83)], []) _ _
  refine am_Rn.run am_h156 6 (F' := (8, [(0, .ref 83)], [.int (2 * (w.1 84 0))])) (S' := (am_sh, hx, w.1, w.2)) rfl ?_
  subst hp
  exact am_Rn.ret am_h156 rfl
/-- SixHandsModel.hold(III)Z [83] -/
def zM_hold (v1 : Int32) (v2 : Int32) (v3 : Int32) (w : zHM) : Option (Int32 × zHM) := am_b (zM_isBeat v1 w) fun r1 => if r1 = 0 then (some ((0, w))) else (am_b (zM_isFigure v2 w) fun r3 => if r3 = 0 then (some ((0, w))) else (am_b (zM_hands w) fun r5 => am_b (zM_isIn v3 0 (((1 : Int32) <<< (r5 &&& 31)) - 1)) fun r6 => if r6 = 0 then (some ((0, w))) else (am_ix 350 ((200 + (6 * v1)) + v2) (am_b ((va_up w.1 84 (upd (w.1 84) (((200 + (6 * v1)) + v2).toNatClampNeg) v3), w.2)) fun w9 => some ((1, w9))))))
set_option maxRecDepth 20000 in
theorem ezM_hold {d : Nat} (hd : 2 ≤ d) (v1 : Int32) (v2 : Int32) (v3 : Int32) (w : zHM) (R : Int32 × zHM) (hp : zM_hold v1 v2 v3 w = some R) : am_Ev 83 Xs am_P d 205 [.ref 83, .int v1, .int v2, .int v3] (am_sh, hx, w.1, w.2) (some (.int R.1), (am_sh, hx, R.2.1, R.2.2)) := by
  obtain ⟨d, rfl⟩ : ∃ k, d = k + 1 := ⟨d - 1, by omega⟩
  unfold zM_hold at hp
  show am_Rn 83 Xs am_P _ 205 (0, [(0, .ref 83), (1, .int v1), (2, .int v2), (3, .int v3)], []) _ _
  refine am_Rn.run am_h205 2 (F' := (2, [(0, .ref 83), (1, .int v1), (2, .int v2), (3, .int v3)], [.int v1, .ref 83])) (S' := (am_sh, hx, w.1, w.2)) rfl ?_
  obtain ⟨r1, h_r1, hp⟩ := am_b_e hp
  refine am_Rn.call am_h205 (mj := 155) (As := [.ref 83, .int v1]) (F' := (5, [(0, .ref 83), (1, .int v1), (2, .int v2), (3, .int v3)], [])) (M' := am_m155) (r := some (.int r1)) (S1 := (am_sh, hx, w.1, w.2)) rfl am_h155 rfl (by subst h_r1; exact (ezM_isBeat (by omega) v1 w)) ?_
  refine am_Rn.ite am_h205 (c := r1 = 0) (t := 32) (f := 8) (lv := [(0, .ref 83), (1, .int v1), (2, .int v2), (3, .int v3)]) (st := []) (S' := (am_sh, hx, w.1, w.2)) rfl hp (fun hc2 hp => ?_) (fun hc2 hp => ?_)
  · refine am_Rn.run am_h205 1 (F' := (33, [(0, .ref 83), (1, .int v1), (2, .int v2), (3, .int v3)], [.int 0])) (S' := (am_sh, hx, w.1, w.2)) rfl ?_
    cases hp
    exact am_Rn.ret am_h205 rfl
  · refine am_Rn.run am_h205 2 (F' := (10, [(0, .ref 83), (1, .int v1), (2, .int v2), (3, .int v3)], [.int v2, .ref 83])) (S' := (am_sh, hx, w.1, w.2)) rfl ?_
    obtain ⟨r3, h_r3, hp⟩ := am_b_e hp
    refine am_Rn.call am_h205 (mj := 154) (As := [.ref 83, .int v2]) (F' := (13, [(0, .ref 83), (1, .int v1), (2, .int v2), (3, .int v3)], [])) (M' := am_m154) (r := some (.int r3)) (S1 := (am_sh, hx, w.1, w.2)) rfl am_h154 rfl (by subst h_r3; exact (ezM_isFigure (by omega) v2 w)) ?_
    refine am_Rn.ite am_h205 (c := r3 = 0) (t := 32) (f := 16) (lv := [(0, .ref 83), (1, .int v1), (2, .int v2), (3, .int v3)]) (st := []) (S' := (am_sh, hx, w.1, w.2)) rfl hp (fun hc4 hp => ?_) (fun hc4 hp => ?_)
    · refine am_Rn.run am_h205 1 (F' := (33, [(0, .ref 83), (1, .int v1), (2, .int v2), (3, .int v3)], [.int 0])) (S' := (am_sh, hx, w.1, w.2)) rfl ?_
      cases hp
      exact am_Rn.ret am_h205 rfl
    · refine am_Rn.run am_h205 4 (F' := (20, [(0, .ref 83), (1, .int v1), (2, .int v2), (3, .int v3)], [.ref 83, .int 1, .int 0, .int v3])) (S' := (am_sh, hx, w.1, w.2)) rfl ?_
      obtain ⟨r5, h_r5, hp⟩ := am_b_e hp
      refine am_Rn.call am_h205 (mj := 156) (As := [.ref 83]) (F' := (23, [(0, .ref 83), (1, .int v1), (2, .int v2), (3, .int v3)], [.int 1, .int 0, .int v3])) (M' := am_m156) (r := some (.int r5)) (S1 := (am_sh, hx, w.1, w.2)) rfl am_h156 rfl (by subst h_r5; exact (ezM_hands (by omega) w)) ?_
      refine am_Rn.run am_h205 3 (F' := (26, [(0, .ref 83), (1, .int v1), (2, .int v2), (3, .int v3)], [.int (((1 : Int32) <<< (r5 &&& 31)) - 1), .int 0, .int v3])) (S' := (am_sh, hx, w.1, w.2)) rfl ?_
      obtain ⟨r6, h_r6, hp⟩ := am_b_e hp
      refine am_Rn.call am_h205 (mj := 152) (As := [.int v3, .int 0, .int (((1 : Int32) <<< (r5 &&& 31)) - 1)]) (F' := (29, [(0, .ref 83), (1, .int v1), (2, .int v2), (3, .int v3)], [])) (M' := am_m152) (r := some (.int r6)) (S1 := (am_sh, hx, w.1, w.2)) rfl am_h152 rfl (by subst h_r6; exact (ezM_isIn (by omega) v3 0 (((1 : Int32) <<< (r5 &&& 31)) - 1))) ?_
      refine am_Rn.ite am_h205 (c := r6 = 0) (t := 32) (f := 34) (lv := [(0, .ref 83), (1, .int v1), (2, .int v2), (3, .int v3)]) (st := []) (S' := (am_sh, hx, w.1, w.2)) rfl hp (fun hc7 hp => ?_) (fun hc7 hp => ?_)
      · refine am_Rn.run am_h205 1 (F' := (33, [(0, .ref 83), (1, .int v1), (2, .int v2), (3, .int v3)], [.int 0])) (S' := (am_sh, hx, w.1, w.2)) rfl ?_
        cases hp
        exact am_Rn.ret am_h205 rfl
      · refine am_Rn.run am_h205 10 (F' := (49, [(0, .ref 83), (1, .int v1), (2, .int v2), (3, .int v3)], [.int v3, .int ((200 + (6 * v1)) + v2), .ref 84])) (S' := (am_sh, hx, w.1, w.2)) rfl ?_
        obtain ⟨hn8, hp⟩ := am_ix_e hp
        obtain ⟨w9, h_w9, hp⟩ := am_b_e hp
        refine am_Rn.stepG am_h205 (c := ((200 + (6 * v1)) + v2) < 0 ∨ 350 ≤ ((200 + (6 * v1)) + v2).toNatClampNeg) (F' := (50, [(0, .ref 83), (1, .int v1), (2, .int v2), (3, .int v3)], [])) (S' := (am_sh, hx, w9.1, w9.2)) (by subst h_w9; rfl) hn8 ?_
        refine am_Rn.run am_h205 1 (F' := (51, [(0, .ref 83), (1, .int v1), (2, .int v2), (3, .int v3)], [.int 1])) (S' := (am_sh, hx, w9.1, w9.2)) rfl ?_
        cases hp
        exact am_Rn.ret am_h205 rfl
/-- SixHandsModel.heldBy(II)I [83] -/
def zM_heldBy (v1 : Int32) (v2 : Int32) (w : zHM) : Option (Int32) := am_ix 350 ((200 + (6 * v1)) + v2) (some (w.1 84 (((200 + (6 * v1)) + v2).toNatClampNeg)))
set_option maxRecDepth 20000 in
theorem ezM_heldBy {d : Nat} (hd : 0 ≤ d) (v1 : Int32) (v2 : Int32) (w : zHM) (R : Int32) (hp : zM_heldBy v1 v2 w = some R) : am_Ev 83 Xs am_P d 160 [.ref 83, .int v1, .int v2] (am_sh, hx, w.1, w.2) (some (.int R), (am_sh, hx, w.1, w.2)) := by
  unfold zM_heldBy at hp
  show am_Rn 83 Xs am_P _ 160 (0, [(0, .ref 83), (1, .int v1), (2, .int v2)], []) _ _
  refine am_Rn.run am_h160 9 (F' := (14, [(0, .ref 83), (1, .int v1), (2, .int v2)], [.int ((200 + (6 * v1)) + v2), .ref 84])) (S' := (am_sh, hx, w.1, w.2)) rfl ?_
  obtain ⟨hn1, hp⟩ := am_ix_e hp
  refine am_Rn.stepG am_h160 (c := ((200 + (6 * v1)) + v2) < 0 ∨ 350 ≤ ((200 + (6 * v1)) + v2).toNatClampNeg) (F' := (15, [(0, .ref 83), (1, .int v1), (2, .int v2)], [.int (w.1 84 (((200 + (6 * v1)) + v2).toNatClampNeg))])) (S' := (am_sh, hx, w.1, w.2)) rfl hn1 ?_
  cases hp
  exact am_Rn.ret am_h160 rfl
/-- SixHandsModel.held(II)I [83] -/
def zM_held (v1 : Int32) (v2 : Int32) (w : zHM) : Option (Int32) := am_b (zM_isBeat v1 w) fun r1 => if r1 = 0 then (some (-1)) else (am_b (zM_isFigure v2 w) fun r3 => if r3 = 0 then (some (-1)) else ((zM_heldBy v1 v2 w).bind fun r5 => some r5))
set_option maxRecDepth 20000 in
theorem ezM_held {d : Nat} (hd : 2 ≤ d) (v1 : Int32) (v2 : Int32) (w : zHM) (R : Int32) (hp : zM_held v1 v2 w = some R) : am_Ev 83 Xs am_P d 206 [.ref 83, .int v1, .int v2] (am_sh, hx, w.1, w.2) (some (.int R), (am_sh, hx, w.1, w.2)) := by
  obtain ⟨d, rfl⟩ : ∃ k, d = k + 1 := ⟨d - 1, by omega⟩
  unfold zM_held at hp
  show am_Rn 83 Xs am_P _ 206 (0, [(0, .ref 83), (1, .int v1), (2, .int v2)], []) _ _
  refine am_Rn.run am_h206 2 (F' := (2, [(0, .ref 83), (1, .int v1), (2, .int v2)], [.int v1, .ref 83])) (S' := (am_sh, hx, w.1, w.2)) rfl ?_
  obtain ⟨r1, h_r1, hp⟩ := am_b_e hp
  refine am_Rn.call am_h206 (mj := 155) (As := [.ref 83, .int v1]) (F' := (5, [(0, .ref 83), (1, .int v1), (2, .int v2)], [])) (M' := am_m155) (r := some (.int r1)) (S1 := (am_sh, hx, w.1, w.2)) rfl am_h155 rfl (by subst h_r1; exact (ezM_isBeat (by omega) v1 w)) ?_
  refine am_Rn.ite am_h206 (c := r1 = 0) (t := 25) (f := 8) (lv := [(0, .ref 83), (1, .int v1), (2, .int v2)]) (st := []) (S' := (am_sh, hx, w.1, w.2)) rfl hp (fun hc2 hp => ?_) (fun hc2 hp => ?_)
  · refine am_Rn.run am_h206 1 (F' := (26, [(0, .ref 83), (1, .int v1), (2, .int v2)], [.int (-1)])) (S' := (am_sh, hx, w.1, w.2)) rfl ?_
    cases hp
    exact am_Rn.ret am_h206 rfl
  · refine am_Rn.run am_h206 2 (F' := (10, [(0, .ref 83), (1, .int v1), (2, .int v2)], [.int v2, .ref 83])) (S' := (am_sh, hx, w.1, w.2)) rfl ?_
    obtain ⟨r3, h_r3, hp⟩ := am_b_e hp
    refine am_Rn.call am_h206 (mj := 154) (As := [.ref 83, .int v2]) (F' := (13, [(0, .ref 83), (1, .int v1), (2, .int v2)], [])) (M' := am_m154) (r := some (.int r3)) (S1 := (am_sh, hx, w.1, w.2)) rfl am_h154 rfl (by subst h_r3; exact (ezM_isFigure (by omega) v2 w)) ?_
    refine am_Rn.ite am_h206 (c := r3 = 0) (t := 25) (f := 16) (lv := [(0, .ref 83), (1, .int v1), (2, .int v2)]) (st := []) (S' := (am_sh, hx, w.1, w.2)) rfl hp (fun hc4 hp => ?_) (fun hc4 hp => ?_)
    · refine am_Rn.run am_h206 1 (F' := (26, [(0, .ref 83), (1, .int v1), (2, .int v2)], [.int (-1)])) (S' := (am_sh, hx, w.1, w.2)) rfl ?_
      cases hp
      exact am_Rn.ret am_h206 rfl
    · refine am_Rn.run am_h206 3 (F' := (19, [(0, .ref 83), (1, .int v1), (2, .int v2)], [.int v2, .int v1, .ref 83])) (S' := (am_sh, hx, w.1, w.2)) rfl ?_
      obtain ⟨r5, h_r5, hp⟩ := am_bind hp
      refine am_Rn.call am_h206 (mj := 160) (As := [.ref 83, .int v1, .int v2]) (F' := (22, [(0, .ref 83), (1, .int v1), (2, .int v2)], [])) (M' := am_m160) (r := some (.int r5)) (S1 := (am_sh, hx, w.1, w.2)) rfl am_h160 rfl (ezM_heldBy (by omega) v1 v2 w _ h_r5) ?_
      refine am_Rn.run am_h206 1 (F' := (26, [(0, .ref 83), (1, .int v1), (2, .int v2)], [.int r5])) (S' := (am_sh, hx, w.1, w.2)) rfl ?_
      cases hp
      exact am_Rn.ret am_h206 rfl
/-- SixHandsModel.kindOf(I)I [83] -/
def zM_kindOf (v1 : Int32) (w : zHM) : Option (Int32) := am_ix 350 (20 + (2 * v1)) (some (w.1 84 ((20 + (2 * v1)).toNatClampNeg)))
set_option maxRecDepth 20000 in
theorem ezM_kindOf {d : Nat} (hd : 0 ≤ d) (v1 : Int32) (w : zHM) (R : Int32) (hp : zM_kindOf v1 w = some R) : am_Ev 83 Xs am_P d 158 [.ref 83, .int v1] (am_sh, hx, w.1, w.2) (some (.int R), (am_sh, hx, w.1, w.2)) := by
  unfold zM_kindOf at hp
  show am_Rn 83 Xs am_P _ 158 (0, [(0, .ref 83), (1, .int v1)], []) _ _
  refine am_Rn.run am_h158 7 (F' := (10, [(0, .ref 83), (1, .int v1)], [.int (20 + (2 * v1)), .ref 84])) (S' := (am_sh, hx, w.1, w.2)) rfl ?_
  obtain ⟨hn1, hp⟩ := am_ix_e hp
  refine am_Rn.stepG am_h158 (c := (20 + (2 * v1)) < 0 ∨ 350 ≤ (20 + (2 * v1)).toNatClampNeg) (F' := (11, [(0, .ref 83), (1, .int v1)], [.int (w.1 84 ((20 + (2 * v1)).toNatClampNeg))])) (S' := (am_sh, hx, w.1, w.2)) rfl hn1 ?_
  cases hp
  exact am_Rn.ret am_h158 rfl
end
