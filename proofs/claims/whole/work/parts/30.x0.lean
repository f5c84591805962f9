section
variable {Xs : Nat × (Nat → Int32)} {hx hm : Nat → Nat → Int32} {g : Nat → Nat → Int64} {S : am_S}
/-- SixHands$Findings.forget()V [76] -/
def zF_forget_L2 : Nat → Int32 → (Nat → Nat → Int32) → Option ((Nat → Nat → Int32))
  | 0, _, _ => none
  | n + 1, v1, h => if v1 < 8 then (am_ix 8 v1 (am_b (va_up h 77 (upd (h 77) (v1.toNatClampNeg) (0 : Int32))) fun h3 => am_ix 8 v1 (am_b (va_up h3 80 (upd (h3 80) (v1.toNatClampNeg) (0 : Int32))) fun h5 => zF_forget_L2 n (v1 + 1) h5))) else (some h)
set_option maxRecDepth 20000 in
theorem ezF_forget_L2 {d : Nat} (hd : 0 ≤ d) (R : (Nat → Nat → Int32)) : ∀ (n : Nat) (v1 : Int32) (h : (Nat → Nat → Int32)), zF_forget_L2 n v1 h = some R → am_Rn 83 Xs am_P d 8 (2, [(0, .ref 76), (1, .int v1)], []) (am_sh, h, hm, g) (none, (am_sh, R, hm, g))
  | 0, _, _, hp => by cases hp
  | n + 1, v1, h, hp => by
    unfold zF_forget_L2 at hp
    refine am_Rn.run am_h8 2 (F' := (5, [(0, .ref 76), (1, .int v1)], [.int 8, .int v1])) (S' := (am_sh, h, hm, g)) rfl ?_
    refine am_Rn.ite am_h8 (c := v1 < 8) (t := 8) (f := 28) (lv := [(0, .ref 76), (1, .int v1)]) (st := []) (S' := (am_sh, h, hm, g)) rfl hp (fun hc1 hp => ?_) (fun hc1 hp => ?_)
    · refine am_Rn.run am_h8 4 (F' := (14, [(0, .ref 76), (1, .int v1)], [.int 0, .int v1, .ref 77])) (S' := (am_sh, h, hm, g)) rfl ?_
      obtain ⟨hn2, hp⟩ := am_ix_e hp
      obtain ⟨h3, h_h3, hp⟩ := am_b_e hp
      refine am_Rn.stepG am_h8 (c := v1 < 0 ∨ 8 ≤ v1.toNatClampNeg) (F' := (15, [(0, .ref 76), (1, .int v1)], [])) (S' := (am_sh, h3, hm, g)) (by subst h_h3; rfl) hn2 ?_
      refine am_Rn.run am_h8 4 (F' := (21, [(0, .ref 76), (1, .int v1)], [.int 0, .int v1, .ref 80])) (S' := (am_sh, h3, hm, g)) rfl ?_
      obtain ⟨hn4, hp⟩ := am_ix_e hp
      obtain ⟨h5, h_h5, hp⟩ := am_b_e hp
      refine am_Rn.stepG am_h8 (c := v1 < 0 ∨ 8 ≤ v1.toNatClampNeg) (F' := (22, [(0, .ref 76), (1, .int v1)], [])) (S' := (am_sh, h5, hm, g)) (by subst h_h5; rfl) hn4 ?_
      refine am_Rn.run am_h8 2 (F' := (2, [(1, .int (v1 + 1)), (0, .ref 76)], [])) (S' := (am_sh, h5, hm, g)) rfl ?_
      refine am_Rn.sub [1, 0] rfl rfl ?_
      exact ezF_forget_L2 hd R n (v1 + 1) h5 hp
    · cases hp
      exact am_Rn.ret am_h8 rfl
def zF_forget (h : (Nat → Nat → Int32)) : Option ((Nat → Nat → Int32)) := zF_forget_L2 am_N 0 h
set_option maxRecDepth 20000 in
theorem ezF_forget {d : Nat} (hd : 0 ≤ d) (h : (Nat → Nat → Int32)) (R : (Nat → Nat → Int32)) (hp : zF_forget h = some R) : am_Ev 83 Xs am_P d 8 [.ref 76] (am_sh, h, hm, g) (none, (am_sh, R, hm, g)) := by
  unfold zF_forget at hp
  show am_Rn 83 Xs am_P _ 8 (0, [(0, .ref 76)], []) _ _
  refine am_Rn.run am_h8 2 (F' := (2, [(1, .int 0), (0, .ref 76)], [])) (S' := (am_sh, h, hm, g)) rfl ?_
  refine am_Rn.sub [1, 0] rfl rfl ?_
  exact ezF_forget_L2 hd R am_N 0 h hp
/-- SixHands.changed()V [0] -/
def zH_changed (h : (Nat → Nat → Int32)) : Option ((Nat → Nat → Int32)) := am_b (va_up h 59 (upd (h 59) 2 0)) fun h1 => (zF_forget h1).bind fun r2 => some r2
set_option maxRecDepth 20000 in
theorem ezH_changed {d : Nat} (hd : 1 ≤ d) (h : (Nat → Nat → Int32)) (R : (Nat → Nat → Int32)) (hp : zH_changed h = some R) : am_Ev 83 Xs am_P d 141 [.ref 0] (am_sh, h, hm, g) (none, (am_sh, R, hm, g)) := by
  obtain ⟨d, rfl⟩ : ∃ k, d = k + 1 := ⟨d - 1, by omega⟩
  unfold zH_changed at hp
  show am_Rn 83 Xs am_P _ 141 (0, [(0, .ref 0)], []) _ _
  obtain ⟨h1, h_h1, hp⟩ := am_b_e hp
  refine am_Rn.run am_h141 6 (F' := (12, [(0, .ref 0)], [.ref 76])) (S' := (am_sh, h1, hm, g)) (by subst h_h1; rfl) ?_
  obtain ⟨r2, h_r2, hp⟩ := am_bind hp
  refine am_Rn.call am_h141 (mj := 8) (As := [.ref 76]) (F' := (15, [(0, .ref 0)], [])) (M' := am_m8) (r := none) (S1 := (am_sh, r2, hm, g)) rfl am_h8 rfl (ezF_forget (by omega) h1 _ h_r2) ?_
  cases hp
  exact am_Rn.ret am_h141 rfl
/-- SixHands$Stage.addPuppeteer(II)I [1] -/
def zG_addPuppeteer (v1 : Int32) (v2 : Int32) (h : (Nat → Nat → Int32)) : Option (Int32 × (Nat → Nat → Int32)) := am_ix 3 (h 1 1) (am_b (va_up h 2 (upd (h 2) ((h 1 1).toNatClampNeg) v1)) fun h2 => am_ix 3 (h2 1 1) (am_b (va_up h2 3 (upd (h2 3) ((h2 1 1).toNatClampNeg) v2)) fun h4 => am_b (h4 1 1) fun x5 => am_b (va_up h4 1 (upd (h4 1) 1 (x5 + 1))) fun h6 => some ((x5, h6))))
set_option maxRecDepth 20000 in
theorem ezG_addPuppeteer {d : Nat} (hd : 0 ≤ d) (v1 : Int32) (v2 : Int32) (h : (Nat → Nat → Int32)) (R : Int32 × (Nat → Nat → Int32)) (hp : zG_addPuppeteer v1 v2 h = some R) : am_Ev 83 Xs am_P d 72 [.ref 1, .int v1, .int v2] (am_sh, h, hm, g) (some (.int R.1), (am_sh, R.2, hm, g)) := by
  unfold zG_addPuppeteer at hp
  show am_Rn 83 Xs am_P _ 72 (0, [(0, .ref 1), (1, .int v1), (2, .int v2)], []) _ _
  refine am_Rn.run am_h72 5 (F' := (9, [(0, .ref 1), (1, .int v1), (2, .int v2)], [.int v1, .int (h 1 1), .ref 2])) (S' := (am_sh, h, hm, g)) rfl ?_
  obtain ⟨hn1, hp⟩ := am_ix_e hp
  obtain ⟨h2, h_h2, hp⟩ := am_b_e hp
  refine am_Rn.stepG am_h72 (c := (h 1 1) < 0 ∨ 3 ≤ (h 1 1).toNatClampNeg) (F' := (10, [(0, .ref 1), (1, .int v1), (2, .int v2)], [])) (S' := (am_sh, h2, hm, g)) (by subst h_h2; rfl) hn1 ?_
  refine am_Rn.run am_h72 5 (F' := (19, [(0, .ref 1), (1, .int v1), (2, .int v2)], [.int v2, .int (h2 1 1), .ref 3])) (S' := (am_sh, h2, hm, g)) rfl ?_
  obtain ⟨hn3, hp⟩ := am_ix_e hp
  obtain ⟨h4, h_h4, hp⟩ := am_b_e hp
  refine am_Rn.stepG am_h72 (c := (h2 1 1) < 0 ∨ 3 ≤ (h2 1 1).toNatClampNeg) (F' := (20, [(0, .ref 1), (1, .int v1), (2, .int v2)], [])) (S' := (am_sh, h4, hm, g)) (by subst h_h4; rfl) hn3 ?_
  obtain ⟨x5, h_x5, hp⟩ := am_b_e hp
  obtain ⟨h6, h_h6, hp⟩ := am_b_e hp
  refine am_Rn.run am_h72 7 (F' := (31, [(0, .ref 1), (1, .int v1), (2, .int v2)], [.int x5])) (S' := (am_sh, h6, hm, g)) (by subst h_x5; subst h_h6; rfl) ?_
  cases hp
  exact am_Rn.ret am_h72 rfl
/-- SixHands.puppeteer(II)I [0] -/
def zH_puppeteer (v1 : Int32) (v2 : Int32) (h : (Nat → Nat → Int32)) : Option (Int32 × (Nat → Nat → Int32)) := if v1 < 0 then (some (((-1), h))) else (if v1 < (h 1 0) then (if v2 < 0 then (some (((-1), h))) else (if 7 < v2 then (some (((-1), h))) else (if (h 1 1) < 3 then ((zH_changed h).bind fun r6 => (zG_addPuppeteer v1 v2 r6).bind fun r7 => some ((r7.1, r7.2))) else (some (((-1), h)))))) else (some (((-1), h))))
set_option maxRecDepth 20000 in
theorem ezH_puppeteer {d : Nat} (hd : 2 ≤ d) (v1 : Int32) (v2 : Int32) (h : (Nat → Nat → Int32)) (R : Int32 × (Nat → Nat → Int32)) (hp : zH_puppeteer v1 v2 h = some R) : am_Ev 83 Xs am_P d 108 [.ref 0, .int v1, .int v2] (am_sh, h, hm, g) (some (.int R.1), (am_sh, R.2, hm, g)) := by
  obtain ⟨d, rfl⟩ : ∃ k, d = k + 1 := ⟨d - 1, by omega⟩
  unfold zH_puppeteer at hp
  show am_Rn 83 Xs am_P _ 108 (0, [(0, .ref 0), (1, .int v1), (2, .int v2)], []) _ _
  refine am_Rn.run am_h108 1 (F' := (1, [(0, .ref 0), (1, .int v1), (2, .int v2)], [.int v1])) (S' := (am_sh, h, hm, g)) rfl ?_
  refine am_Rn.ite am_h108 (c := v1 < 0) (t := 36) (f := 4) (lv := [(0, .ref 0), (1, .int v1), (2, .int v2)]) (st := []) (S' := (am_sh, h, hm, g)) rfl hp (fun hc1 hp => ?_) (fun hc1 hp => ?_)
  · refine am_Rn.run am_h108 1 (F' := (37, [(0, .ref 0), (1, .int v1), (2, .int v2)], [.int (-1)])) (S' := (am_sh, h, hm, g)) rfl ?_
    cases hp
    exact am_Rn.ret am_h108 rfl
  · refine am_Rn.run am_h108 4 (F' := (12, [(0, .ref 0), (1, .int v1), (2, .int v2)], [.int (h 1 0), .int v1])) (S' := (am_sh, h, hm, g)) rfl ?_
    refine am_Rn.ite am_h108 (c := v1 < (h 1 0)) (t := 15) (f := 36) (lv := [(0, .ref 0), (1, .int v1), (2, .int v2)]) (st := []) (S' := (am_sh, h, hm, g)) rfl hp (fun hc2 hp => ?_) (fun hc2 hp => ?_)
    · refine am_Rn.run am_h108 1 (F' := (16, [(0, .ref 0), (1, .int v1), (2, .int v2)], [.int v2])) (S' := (am_sh, h, hm, g)) rfl ?_
      refine am_Rn.ite am_h108 (c := v2 < 0) (t := 36) (f := 19) (lv := [(0, .ref 0), (1, .int v1), (2, .int v2)]) (st := []) (S' := (am_sh, h, hm, g)) rfl hp (fun hc3 hp => ?_) (fun hc3 hp => ?_)
      · refine am_Rn.run am_h108 1 (F' := (37, [(0, .ref 0), (1, .int v1), (2, .int v2)], [.int (-1)])) (S' := (am_sh, h, hm, g)) rfl ?_
        cases hp
        exact am_Rn.ret am_h108 rfl
      · refine am_Rn.run am_h108 2 (F' := (22, [(0, .ref 0), (1, .int v1), (2, .int v2)], [.int 7, .int v2])) (S' := (am_sh, h, hm, g)) rfl ?_
        refine am_Rn.ite am_h108 (c := 7 < v2) (t := 36) (f := 25) (lv := [(0, .ref 0), (1, .int v1), (2, .int v2)]) (st := []) (S' := (am_sh, h, hm, g)) rfl hp (fun hc4 hp => ?_) (fun hc4 hp => ?_)
        · refine am_Rn.run am_h108 1 (F' := (37, [(0, .ref 0), (1, .int v1), (2, .int v2)], [.int (-1)])) (S' := (am_sh, h, hm, g)) rfl ?_
          cases hp
          exact am_Rn.ret am_h108 rfl
        · refine am_Rn.run am_h108 4 (F' := (33, [(0, .ref 0), (1, .int v1), (2, .int v2)], [.int 3, .int (h 1 1)])) (S' := (am_sh, h, hm, g)) rfl ?_
          refine am_Rn.ite am_h108 (c := (h 1 1) < 3) (t := 38) (f := 36) (lv := [(0, .ref 0), (1, .int v1), (2, .int v2)]) (st := []) (S' := (am_sh, h, hm, g)) rfl hp (fun hc5 hp => ?_) (fun hc5 hp => ?_)
          · refine am_Rn.run am_h108 1 (F' := (39, [(0, .ref 0), (1, .int v1), (2, .int v2)], [.ref 0])) (S' := (am_sh, h, hm, g)) rfl ?_
            obtain ⟨r6, h_r6, hp⟩ := am_bind hp
            refine am_Rn.call am_h108 (mj := 141) (As := [.ref 0]) (F' := (42, [(0, .ref 0), (1, .int v1), (2, .int v2)], [])) (M' := am_m141) (r := none) (S1 := (am_sh, r6, hm, g)) rfl am_h141 rfl (ezH_changed (by omega) h _ h_r6) ?_
            refine am_Rn.run am_h108 4 (F' := (48, [(0, .ref 0), (1, .int v1), (2, .int v2)], [.int v2, .int v1, .ref 1])) (S' := (am_sh, r6, hm, g)) rfl ?_
            obtain ⟨r7, h_r7, hp⟩ := am_bind hp
            refine am_Rn.call am_h108 (mj := 72) (As := [.ref 1, .int v1, .int v2]) (F' := (51, [(0, .ref 0), (1, .int v1), (2, .int v2)], [])) (M' := am_m72) (r := some (.int r7.1)) (S1 := (am_sh, r7.2, hm, g)) rfl am_h72 rfl (ezG_addPuppeteer (by omega) v1 v2 r6 _ h_r7) ?_
            cases hp
            exact am_Rn.ret am_h108 rfl
          · refine am_Rn.run am_h108 1 (F' := (37, [(0, .ref 0), (1, .int v1), (2, .int v2)], [.int (-1)])) (S' := (am_sh, h, hm, g)) rfl ?_
            cases hp
            exact am_Rn.ret am_h108 rfl
    · refine am_Rn.run am_h108 1 (F' := (37, [(0, .ref 0), (1, .int v1), (2, .int v2)], [.int (-1)])) (S' := (am_sh, h, hm, g)) rfl ?_
      cases hp
      exact am_Rn.ret am_h108 rfl
/-- SixHands$Stage.addFigure(II)I [1] -/
def zG_addFigure (v1 : Int32) (v2 : Int32) (h : (Nat → Nat → Int32)) : Option (Int32 × (Nat → Nat → Int32)) := am_ix 6 (h 1 4) (am_b (va_up h 4 (upd (h 4) ((h 1 4).toNatClampNeg) v1)) fun h2 => am_ix 6 (h2 1 4) (am_b (va_up h2 5 (upd (h2 5) ((h2 1 4).toNatClampNeg) v2)) fun h4 => am_b (h4 1 4) fun x5 => am_b (va_up h4 1 (upd (h4 1) 4 (x5 + 1))) fun h6 => some ((x5, h6))))
set_option maxRecDepth 20000 in
theorem ezG_addFigure {d : Nat} (hd : 0 ≤ d) (v1 : Int32) (v2 : Int32) (h : (Nat → Nat → Int32)) (R : Int32 × (Nat → Nat → Int32)) (hp : zG_addFigure v1 v2 h = some R) : am_Ev 83 Xs am_P d 73 [.ref 1, .int v1, .int v2] (am_sh, h, hm, g) (some (.int R.1), (am_sh, R.2, hm, g)) := by
  unfold zG_addFigure at hp
  show am_Rn 83 Xs am_P _ 73 (0, [(0, .ref 1), (1, .int v1), (2, .int v2)], []) _ _
  refine am_Rn.run am_h73 5 (F' := (9, [(0, .ref 1), (1, .int v1), (2, .int v2)], [.int v1, .int (h 1 4), .ref 4])) (S' := (am_sh, h, hm, g)) rfl ?_
  obtain ⟨hn1, hp⟩ := am_ix_e hp
  obtain ⟨h2, h_h2, hp⟩ := am_b_e hp
  refine am_Rn.stepG am_h73 (c := (h 1 4) < 0 ∨ 6 ≤ (h 1 4).toNatClampNeg) (F' := (10, [(0, .ref 1), (1, .int v1), (2, .int v2)], [])) (S' := (am_sh, h2, hm, g)) (by subst h_h2; rfl) hn1 ?_
  refine am_Rn.run am_h73 5 (F' := (19, [(0, .ref 1), (1, .int v1), (2, .int v2)], [.int v2, .int (h2 1 4), .ref 5])) (S' := (am_sh, h2, hm, g)) rfl ?_
  obtain ⟨hn3, hp⟩ := am_ix_e hp
  obtain ⟨h4, h_h4, hp⟩ := am_b_e hp
  refine am_Rn.stepG am_h73 (c := (h2 1 4) < 0 ∨ 6 ≤ (h2 1 4).toNatClampNeg) (F' := (20, [(0, .ref 1), (1, .int v1), (2, .int v2)], [])) (S' := (am_sh, h4, hm, g)) (by subst h_h4; rfl) hn3 ?_
  obtain ⟨x5, h_x5, hp⟩ := am_b_e hp
  obtain ⟨h6, h_h6, hp⟩ := am_b_e hp
  refine am_Rn.run am_h73 7 (F' := (31, [(0, .ref 1), (1, .int v1), (2, .int v2)], [.int x5])) (S' := (am_sh, h6, hm, g)) (by subst h_x5; subst h_h6; rfl) ?_
  cases hp
  exact am_Rn.ret am_h73 rfl
/-- SixHands.figure(II)I [0] -/
def zH_figure (v1 : Int32) (v2 : Int32) (h : (Nat → Nat → Int32)) : Option (Int32 × (Nat → Nat → Int32)) := if v1 < 0 then (some (((-1), h))) else (if 2 < v1 then (some (((-1), h))) else (if v2 < 1 then (some (((-1), h))) else (if 99 < v2 then (some (((-1), h))) else (if (h 1 4) < 6 then ((zH_changed h).bind fun r6 => (zG_addFigure v1 v2 r6).bind fun r7 => some ((r7.1, r7.2))) else (some (((-1), h)))))))
set_option maxRecDepth 20000 in
theorem ezH_figure {d : Nat} (hd : 2 ≤ d) (v1 : Int32) (v2 : Int32) (h : (Nat → Nat → Int32)) (R : Int32 × (Nat → Nat → Int32)) (hp : zH_figure v1 v2 h = some R) : am_Ev 83 Xs am_P d 109 [.ref 0, .int v1, .int v2] (am_sh, h, hm, g) (some (.int R.1), (am_sh, R.2, hm, g)) := by
  obtain ⟨d, rfl⟩ : ∃ k, d = k + 1 := ⟨d - 1, by omega⟩
  unfold zH_figure at hp
  show am_Rn 83 Xs am_P _ 109 (0, [(0, .ref 0), (1, .int v1), (2, .int v2)], []) _ _
  refine am_Rn.run am_h109 1 (F' := (1, [(0, .ref 0), (1, .int v1), (2, .int v2)], [.int v1])) (S' := (am_sh, h, hm, g)) rfl ?_
  refine am_Rn.ite am_h109 (c := v1 < 0) (t := 32) (f := 4) (lv := [(0, .ref 0), (1, .int v1), (2, .int v2)]) (st := []) (S' := (am_sh, h, hm, g)) rfl hp (fun hc1 hp => ?_) (fun hc1 hp => ?_)
  · refine am_Rn.run am_h109 1 (F' := (33, [(0, .ref 0), (1, .int v1), (2, .int v2)], [.int (-1)])) (S' := (am_sh, h, hm, g)) rfl ?_
    cases hp
    exact am_Rn.ret am_h109 rfl
  · refine am_Rn.run am_h109 2 (F' := (6, [(0, .ref 0), (1, .int v1), (2, .int v2)], [.int 2, .int v1])) (S' := (am_sh, h, hm, g)) rfl ?_
    refine am_Rn.ite am_h109 (c := 2 < v1) (t := 32) (f := 9) (lv := [(0, .ref 0), (1, .int v1), (2, .int v2)]) (st := []) (S' := (am_sh, h, hm, g)) rfl hp (fun hc2 hp => ?_) (fun hc2 hp => ?_)
    · refine am_Rn.run am_h109 1 (F' := (33, [(0, .ref 0), (1, .int v1), (2, .int v2)], [.int (-1)])) (S' := (am_sh, h, hm, g)) rfl ?_
      cases hp
      exact am_Rn.ret am_h109 rfl
    · refine am_Rn.run am_h109 2 (F' := (11, [(0, .ref 0), (1, .int v1), (2, .int v2)], [.int 1, .int v2])) (S' := (am_sh, h, hm, g)) rfl ?_
      refine am_Rn.ite am_h109 (c := v2 < 1) (t := 32) (f := 14) (lv := [(0, .ref 0), (1, .int v1), (2, .int v2)]) (st := []) (S' := (am_sh, h, hm, g)) rfl hp (fun hc3 hp => ?_) (fun hc3 hp => ?_)
      · refine am_Rn.run am_h109 1 (F' := (33, [(0, .ref 0), (1, .int v1), (2, .int v2)], [.int (-1)])) (S' := (am_sh, h, hm, g)) rfl ?_
        cases hp
        exact am_Rn.ret am_h109 rfl
      · refine am_Rn.run am_h109 2 (F' := (17, [(0, .ref 0), (1, .int v1), (2, .int v2)], [.int 99, .int v2])) (S' := (am_sh, h, hm, g)) rfl ?_
        refine am_Rn.ite am_h109 (c := 99 < v2) (t := 32) (f := 20) (lv := [(0, .ref 0), (1, .int v1), (2, .int v2)]) (st := []) (S' := (am_sh, h, hm, g)) rfl hp (fun hc4 hp => ?_) (fun hc4 hp => ?_)
        · refine am_Rn.run am_h109 1 (F' := (33, [(0, .ref 0), (1, .int v1), (2, .int v2)], [.int (-1)])) (S' := (am_sh, h, hm, g)) rfl ?_
          cases hp
          exact am_Rn.ret am_h109 rfl
        · refine am_Rn.run am_h109 4 (F' := (29, [(0, .ref 0), (1, .int v1), (2, .int v2)], [.int 6, .int (h 1 4)])) (S' := (am_sh, h, hm, g)) rfl ?_
          refine am_Rn.ite am_h109 (c := (h 1 4) < 6) (t := 34) (f := 32) (lv := [(0, .ref 0), (1, .int v1), (2, .int v2)]) (st := []) (S' := (am_sh, h, hm, g)) rfl hp (fun hc5 hp => ?_) (fun hc5 hp => ?_)
          · refine am_Rn.run am_h109 1 (F' := (35, [(0, .ref 0), (1, .int v1), (2, .int v2)], [.ref 0])) (S' := (am_sh, h, hm, g)) rfl ?_
            obtain ⟨r6, h_r6, hp⟩ := am_bind hp
            refine am_Rn.call am_h109 (mj := 141) (As := [.ref 0]) (F' := (38, [(0, .ref 0), (1, .int v1), (2, .int v2)], [])) (M' := am_m141) (r := none) (S1 := (am_sh, r6, hm, g)) rfl am_h141 rfl (ezH_changed (by omega) h _ h_r6) ?_
            refine am_Rn.run am_h109 4 (F' := (44, [(0, .ref 0), (1, .int v1), (2, .int v2)], [.int v2, .int v1, .ref 1])) (S' := (am_sh, r6, hm, g)) rfl ?_
            obtain ⟨r7, h_r7, hp⟩ := am_bind hp
            refine am_Rn.call am_h109 (mj := 73) (As := [.ref 1, .int v1, .int v2]) (F' := (47, [(0, .ref 0), (1, .int v1), (2, .int v2)], [])) (M' := am_m73) (r := some (.int r7.1)) (S1 := (am_sh, r7.2, hm, g)) rfl am_h73 rfl (ezG_addFigure (by omega) v1 v2 r6 _ h_r7) ?_
            cases hp
            exact am_Rn.ret am_h109 rfl
          · refine am_Rn.run am_h109 1 (F' := (33, [(0, .ref 0), (1, .int v1), (2, .int v2)], [.int (-1)])) (S' := (am_sh, h, hm, g)) rfl ?_
            cases hp
            exact am_Rn.ret am_h109 rfl
/-- SixHands.rules(II)Z [0] -/
def zH_rules (v1 : Int32) (v2 : Int32) (h : (Nat → Nat → Int32)) : Option (Int32 × (Nat → Nat → Int32)) := if v1 < 0 then (some ((0, h))) else (if 6 < v1 then (some ((0, h))) else (if v2 < 0 then (some ((0, h))) else (if 24 < v2 then (some ((0, h))) else ((zH_changed h).bind fun r5 => am_b (va_up r5 1 (upd (r5 1) 9 v1)) fun h6 => am_b (va_up h6 1 (upd (h6 1) 10 v2)) fun h7 => some ((1, h7))))))
set_option maxRecDepth 20000 in
theorem ezH_rules {d : Nat} (hd : 2 ≤ d) (v1 : Int32) (v2 : Int32) (h : (Nat → Nat → Int32)) (R : Int32 × (Nat → Nat → Int32)) (hp : zH_rules v1 v2 h = some R) : am_Ev 83 Xs am_P d 110 [.ref 0, .int v1, .int v2] (am_sh, h, hm, g) (some (.int R.1), (am_sh, R.2, hm, g)) := by
  obtain ⟨d, rfl⟩ : ∃ k, d = k + 1 := ⟨d - 1, by omega⟩
  unfold zH_rules at hp
  show am_Rn 83 Xs am_P _ 110 (0, [(0, .ref 0), (1, .int v1), (2, .int v2)], []) _ _
  refine am_Rn.run am_h110 1 (F' := (1, [(0, .ref 0), (1, .int v1), (2, .int v2)], [.int v1])) (S' := (am_sh, h, hm, g)) rfl ?_
  refine am_Rn.ite am_h110 (c := v1 < 0) (t := 20) (f := 4) (lv := [(0, .ref 0), (1, .int v1), (2, .int v2)]) (st := []) (S' := (am_sh, h, hm, g)) rfl hp (fun hc1 hp => ?_) (fun hc1 hp => ?_)
  · refine am_Rn.run am_h110 1 (F' := (21, [(0, .ref 0), (1, .int v1), (2, .int v2)], [.int 0])) (S' := (am_sh, h, hm, g)) rfl ?_
    cases hp
    exact am_Rn.ret am_h110 rfl
  · refine am_Rn.run am_h110 2 (F' := (7, [(0, .ref 0), (1, .int v1), (2, .int v2)], [.int 6, .int v1])) (S' := (am_sh, h, hm, g)) rfl ?_
    refine am_Rn.ite am_h110 (c := 6 < v1) (t := 20) (f := 10) (lv := [(0, .ref 0), (1, .int v1), (2, .int v2)]) (st := []) (S' := (am_sh, h, hm, g)) rfl hp (fun hc2 hp => ?_) (fun hc2 hp => ?_)
    · refine am_Rn.run am_h110 1 (F' := (21, [(0, .ref 0), (1, .int v1), (2, .int v2)], [.int 0])) (S' := (am_sh, h, hm, g)) rfl ?_
      cases hp
      exact am_Rn.ret am_h110 rfl
    · refine am_Rn.run am_h110 1 (F' := (11, [(0, .ref 0), (1, .int v1), (2, .int v2)], [.int v2])) (S' := (am_sh, h, hm, g)) rfl ?_
      refine am_Rn.ite am_h110 (c := v2 < 0) (t := 20) (f := 14) (lv := [(0, .ref 0), (1, .int v1), (2, .int v2)]) (st := []) (S' := (am_sh, h, hm, g)) rfl hp (fun hc3 hp => ?_) (fun hc3 hp => ?_)
      · refine am_Rn.run am_h110 1 (F' := (21, [(0, .ref 0), (1, .int v1), (2, .int v2)], [.int 0])) (S' := (am_sh, h, hm, g)) rfl ?_
        cases hp
        exact am_Rn.ret am_h110 rfl
      · refine am_Rn.run am_h110 2 (F' := (17, [(0, .ref 0), (1, .int v1), (2, .int v2)], [.int 24, .int v2])) (S' := (am_sh, h, hm, g)) rfl ?_
        refine am_Rn.ite am_h110 (c := 24 < v2) (t := 20) (f := 22) (lv := [(0, .ref 0), (1, .int v1), (2, .int v2)]) (st := []) (S' := (am_sh, h, hm, g)) rfl hp (fun hc4 hp => ?_) (fun hc4 hp => ?_)
        · refine am_Rn.run am_h110 1 (F' := (21, [(0, .ref 0), (1, .int v1), (2, .int v2)], [.int 0])) (S' := (am_sh, h, hm, g)) rfl ?_
          cases hp
          exact am_Rn.ret am_h110 rfl
        · refine am_Rn.run am_h110 1 (F' := (23, [(0, .ref 0), (1, .int v1), (2, .int v2)], [.ref 0])) (S' := (am_sh, h, hm, g)) rfl ?_
          obtain ⟨r5, h_r5, hp⟩ := am_bind hp
          refine am_Rn.call am_h110 (mj := 141) (As := [.ref 0]) (F' := (26, [(0, .ref 0), (1, .int v1), (2, .int v2)], [])) (M' := am_m141) (r := none) (S1 := (am_sh, r5, hm, g)) rfl am_h141 rfl (ezH_changed (by omega) h _ h_r5) ?_
          obtain ⟨h6, h_h6, hp⟩ := am_b_e hp
          obtain ⟨h7, h_h7, hp⟩ := am_b_e hp
          refine am_Rn.run am_h110 9 (F' := (43, [(0, .ref 0), (1, .int v1), (2, .int v2)], [.int 1])) (S' := (am_sh, h7, hm, g)) (by subst h_h6; subst h_h7; rfl) ?_
          cases hp
          exact am_Rn.ret am_h110 rfl
/-- SixHands$Tape.add(I)V [56] -/
def zT_add_L3 : Nat → Int32 → Int32 → (Nat → Nat → Int32) → Option ((Nat → Nat → Int32))
  | 0, _, _, _ => none
  | n + 1, v1, v2, h => if v2 < 0 then (some h) else (if (h 56 1) < 300 then (am_ix 300 (h 56 1) (am_b (va_up h 57 (upd (h 57) ((h 56 1).toNatClampNeg) (((v1.toUInt32 >>> (v2.toUInt32 &&& Int32.toUInt32 31)).toInt32) &&& 255))) fun h4 => am_b (va_up h4 56 (upd (h4 56) 1 ((h4 56 1) + 1))) fun h5 => am_b (v2 + (-8)) fun x6 => zT_add_L3 n v1 x6 h5)) else (am_b (v2 + (-8)) fun x7 => zT_add_L3 n v1 x7 h))
set_option maxRecDepth 20000 in
theorem ezT_add_L3 {d : Nat} (hd : 0 ≤ d) (R : (Nat → Nat → Int32)) : ∀ (n : Nat) (v1 : Int32) (v2 : Int32) (h : (Nat → Nat → Int32)), zT_add_L3 n v1 v2 h = some R → am_Rn 83 Xs am_P d 92 (3, [(0, .ref 56), (1, .int v1), (2, .int v2)], []) (am_sh, h, hm, g) (none, (am_sh, R, hm, g))
  | 0, _, _, _, hp => by cases hp
  | n + 1, v1, v2, h, hp => by
    unfold zT_add_L3 at hp
    refine am_Rn.run am_h92 1 (F' := (4, [(0, .ref 56), (1, .int v1), (2, .int v2)], [.int v2])) (S' := (am_sh, h, hm, g)) rfl ?_
    refine am_Rn.ite am_h92 (c := v2 < 0) (t := 49) (f := 7) (lv := [(0, .ref 56), (1, .int v1), (2, .int v2)]) (st := []) (S' := (am_sh, h, hm, g)) rfl hp (fun hc1 hp => ?_) (fun hc1 hp => ?_)
    · cases hp
      exact am_Rn.ret am_h92 rfl
    · refine am_Rn.run am_h92 3 (F' := (14, [(0, .ref 56), (1, .int v1), (2, .int v2)], [.int 300, .int (h 56 1)])) (S' := (am_sh, h, hm, g)) rfl ?_
      refine am_Rn.ite am_h92 (c := (h 56 1) < 300) (t := 17) (f := 43) (lv := [(0, .ref 56), (1, .int v1), (2, .int v2)]) (st := []) (S' := (am_sh, h, hm, g)) rfl hp (fun hc2 hp => ?_) (fun hc2 hp => ?_)
      · refine am_Rn.run am_h92 9 (F' := (32, [(0, .ref 56), (1, .int v1), (2, .int v2)], [.int (((v1.toUInt32 >>> (v2.toUInt32 &&& Int32.toUInt32 31)).toInt32) &&& 255), .int (h 56 1), .ref 57])) (S' := (am_sh, h, hm, g)) rfl ?_
        obtain ⟨hn3, hp⟩ := am_ix_e hp
        obtain ⟨h4, h_h4, hp⟩ := am_b_e hp
        refine am_Rn.stepG am_h92 (c := (h 56 1) < 0 ∨ 300 ≤ (h 56 1).toNatClampNeg) (F' := (33, [(0, .ref 56), (1, .int v1), (2, .int v2)], [])) (S' := (am_sh, h4, hm, g)) (by subst h_h4; rfl) hn3 ?_
        obtain ⟨h5, h_h5, hp⟩ := am_b_e hp
        obtain ⟨x6, h_x6, hp⟩ := am_b_e hp
        refine am_Rn.run am_h92 8 (F' := (3, [(2, .int x6), (0, .ref 56), (1, .int v1)], [])) (S' := (am_sh, h5, hm, g)) (by subst h_h5; subst h_x6; rfl) ?_
        refine am_Rn.sub [1, 2, 0] rfl rfl ?_
        exact ezT_add_L3 hd R n v1 x6 h5 hp
      · obtain ⟨x7, h_x7, hp⟩ := am_b_e hp
        refine am_Rn.run am_h92 2 (F' := (3, [(2, .int x7), (0, .ref 56), (1, .int v1)], [])) (S' := (am_sh, h, hm, g)) (by subst h_x7; rfl) ?_
        refine am_Rn.sub [1, 2, 0] rfl rfl ?_
        exact ezT_add_L3 hd R n v1 x7 h hp
def zT_add (v1 : Int32) (h : (Nat → Nat → Int32)) : Option ((Nat → Nat → Int32)) := zT_add_L3 am_N v1 24 h
set_option maxRecDepth 20000 in
theorem ezT_add {d : Nat} (hd : 0 ≤ d) (v1 : Int32) (h : (Nat → Nat → Int32)) (R : (Nat → Nat → Int32)) (hp : zT_add v1 h = some R) : am_Ev 83 Xs am_P d 92 [.ref 56, .int v1] (am_sh, h, hm, g) (none, (am_sh, R, hm, g)) := by
  unfold zT_add at hp
  show am_Rn 83 Xs am_P _ 92 (0, [(0, .ref 56), (1, .int v1)], []) _ _
  refine am_Rn.run am_h92 2 (F' := (3, [(2, .int 24), (0, .ref 56), (1, .int v1)], [])) (S' := (am_sh, h, hm, g)) rfl ?_
  refine am_Rn.sub [1, 2, 0] rfl rfl ?_
  exact ezT_add_L3 hd R am_N v1 24 h hp
/-- SixHands.feed(IIIII)I [0] -/
def zH_feed (v1 : Int32) (v2 : Int32) (v3 : Int32) (v4 : Int32) (v5 : Int32) (h : (Nat → Nat → Int32)) : Option (Int32 × (Nat → Nat → Int32)) := if 300 < ((h 56 1) + 20) then (some (((-1), h))) else ((zT_add v1 h).bind fun r2 => (zT_add v2 r2).bind fun r3 => (zT_add v3 r3).bind fun r4 => (zT_add v4 r4).bind fun r5 => (zT_add v5 r5).bind fun r6 => some ((r6 56 1, r6)))
set_option maxRecDepth 20000 in
theorem ezH_feed {d : Nat} (hd : 1 ≤ d) (v1 : Int32) (v2 : Int32) (v3 : Int32) (v4 : Int32) (v5 : Int32) (h : (Nat → Nat → Int32)) (R : Int32 × (Nat → Nat → Int32)) (hp : zH_feed v1 v2 v3 v4 v5 h = some R) : am_Ev 83 Xs am_P d 111 [.ref 0, .int v1, .int v2, .int v3, .int v4, .int v5] (am_sh, h, hm, g) (some (.int R.1), (am_sh, R.2, hm, g)) := by
  obtain ⟨d, rfl⟩ : ∃ k, d = k + 1 := ⟨d - 1, by omega⟩
  unfold zH_feed at hp
  show am_Rn 83 Xs am_P _ 111 (0, [(0, .ref 0), (1, .int v1), (2, .int v2), (3, .int v3), (4, .int v4), (5, .int v5)], []) _ _
  refine am_Rn.run am_h111 9 (F' := (20, [(6, .ref 56), (0, .ref 0), (1, .int v1), (2, .int v2), (3, .int v3), (4, .int v4), (5, .int v5)], [.int 300, .int ((h 56 1) + 20)])) (S' := (am_sh, h, hm, g)) rfl ?_
  refine am_Rn.ite am_h111 (c := 300 < ((h 56 1) + 20)) (t := 23) (f := 25) (lv := [(6, .ref 56), (0, .ref 0), (1, .int v1), (2, .int v2), (3, .int v3), (4, .int v4), (5, .int v5)]) (st := []) (S' := (am_sh, h, hm, g)) rfl hp (fun hc1 hp => ?_) (fun hc1 hp => ?_)
  · refine am_Rn.run am_h111 1 (F' := (24, [(6, .ref 56), (0, .ref 0), (1, .int v1), (2, .int v2), (3, .int v3), (4, .int v4), (5, .int v5)], [.int (-1)])) (S' := (am_sh, h, hm, g)) rfl ?_
    cases hp
    exact am_Rn.ret am_h111 rfl
  · refine am_Rn.run am_h111 2 (F' := (28, [(6, .ref 56), (0, .ref 0), (1, .int v1), (2, .int v2), (3, .int v3), (4, .int v4), (5, .int v5)], [.int v1, .ref 56])) (S' := (am_sh, h, hm, g)) rfl ?_
    obtain ⟨r2, h_r2, hp⟩ := am_bind hp
    refine am_Rn.call am_h111 (mj := 92) (As := [.ref 56, .int v1]) (F' := (31, [(6, .ref 56), (0, .ref 0), (1, .int v1), (2, .int v2), (3, .int v3), (4, .int v4), (5, .int v5)], [])) (M' := am_m92) (r := none) (S1 := (am_sh, r2, hm, g)) rfl am_h92 rfl (ezT_add (by omega) v1 h _ h_r2) ?_
    refine am_Rn.run am_h111 2 (F' := (34, [(6, .ref 56), (0, .ref 0), (1, .int v1), (2, .int v2), (3, .int v3), (4, .int v4), (5, .int v5)], [.int v2, .ref 56])) (S' := (am_sh, r2, hm, g)) rfl ?_
    obtain ⟨r3, h_r3, hp⟩ := am_bind hp
    refine am_Rn.call am_h111 (mj := 92) (As := [.ref 56, .int v2]) (F' := (37, [(6, .ref 56), (0, .ref 0), (1, .int v1), (2, .int v2), (3, .int v3), (4, .int v4), (5, .int v5)], [])) (M' := am_m92) (r := none) (S1 := (am_sh, r3, hm, g)) rfl am_h92 rfl (ezT_add (by omega) v2 r2 _ h_r3) ?_
    refine am_Rn.run am_h111 2 (F' := (40, [(6, .ref 56), (0, .ref 0), (1, .int v1), (2, .int v2), (3, .int v3), (4, .int v4), (5, .int v5)], [.int v3, .ref 56])) (S' := (am_sh, r3, hm, g)) rfl ?_
    obtain ⟨r4, h_r4, hp⟩ := am_bind hp
    refine am_Rn.call am_h111 (mj := 92) (As := [.ref 56, .int v3]) (F' := (43, [(6, .ref 56), (0, .ref 0), (1, .int v1), (2, .int v2), (3, .int v3), (4, .int v4), (5, .int v5)], [])) (M' := am_m92) (r := none) (S1 := (am_sh, r4, hm, g)) rfl am_h92 rfl (ezT_add (by omega) v3 r3 _ h_r4) ?_
    refine am_Rn.run am_h111 2 (F' := (47, [(6, .ref 56), (0, .ref 0), (1, .int v1), (2, .int v2), (3, .int v3), (4, .int v4), (5, .int v5)], [.int v4, .ref 56])) (S' := (am_sh, r4, hm, g)) rfl ?_
    obtain ⟨r5, h_r5, hp⟩ := am_bind hp
    refine am_Rn.call am_h111 (mj := 92) (As := [.ref 56, .int v4]) (F' := (50, [(6, .ref 56), (0, .ref 0), (1, .int v1), (2, .int v2), (3, .int v3), (4, .int v4), (5, .int v5)], [])) (M' := am_m92) (r := none) (S1 := (am_sh, r5, hm, g)) rfl am_h92 rfl (ezT_add (by omega) v4 r4 _ h_r5) ?_
    refine am_Rn.run am_h111 2 (F' := (54, [(6, .ref 56), (0, .ref 0), (1, .int v1), (2, .int v2), (3, .int v3), (4, .int v4), (5, .int v5)], [.int v5, .ref 56])) (S' := (am_sh, r5, hm, g)) rfl ?_
    obtain ⟨r6, h_r6, hp⟩ := am_bind hp
    refine am_Rn.call am_h111 (mj := 92) (As := [.ref 56, .int v5]) (F' := (57, [(6, .ref 56), (0, .ref 0), (1, .int v1), (2, .int v2), (3, .int v3), (4, .int v4), (5, .int v5)], [])) (M' := am_m92) (r := none) (S1 := (am_sh, r6, hm, g)) rfl am_h92 rfl (ezT_add (by omega) v5 r5 _ h_r6) ?_
    refine am_Rn.run am_h111 2 (F' := (62, [(6, .ref 56), (0, .ref 0), (1, .int v1), (2, .int v2), (3, .int v3), (4, .int v4), (5, .int v5)], [.int (r6 56 1)])) (S' := (am_sh, r6, hm, g)) rfl ?_
    cases hp
    exact am_Rn.ret am_h111 rfl
/-- SixHands.end(I)I [0] -/
def zH_end (v1 : Int32) (h : (Nat → Nat → Int32)) : Int32 × (Nat → Nat → Int32) := if v1 < 0 then (((-1), h)) else (if (h 56 1) < v1 then (((-1), h)) else (am_b (va_up h 56 (upd (h 56) 1 v1)) fun h3 => (v1, h3)))
set_option maxRecDepth 20000 in
theorem ezH_end {d : Nat} (hd : 0 ≤ d) (v1 : Int32) (h : (Nat → Nat → Int32)) : am_Ev 83 Xs am_P d 112 [.ref 0, .int v1] (am_sh, h, hm, g) (some (.int (((zH_end v1 h)).1)), (am_sh, ((zH_end v1 h)).2, hm, g)) := by
  obtain ⟨R, hp⟩ : ∃ R, zH_end v1 h = R := ⟨_, rfl⟩
  rw [hp]
  unfold zH_end at hp
  show am_Rn 83 Xs am_P _ 112 (0, [(0, .ref 0), (1, .int v1)], []) _ _
  refine am_Rn.run am_h112 1 (F' := (1, [(0, .ref 0), (1, .int v1)], [.int v1])) (S' := (am_sh, h, hm, g)) rfl ?_
  refine am_Rn.ite am_h112 (c := v1 < 0) (t := 18) (f := 4) (lv := [(0, .ref 0), (1, .int v1)]) (st := []) (S' := (am_sh, h, hm, g)) rfl hp (fun hc1 hp => ?_) (fun hc1 hp => ?_)
  · refine am_Rn.run am_h112 1 (F' := (19, [(0, .ref 0), (1, .int v1)], [.int (-1)])) (S' := (am_sh, h, hm, g)) rfl ?_
    subst hp
    exact am_Rn.ret am_h112 rfl
  · refine am_Rn.run am_h112 5 (F' := (15, [(0, .ref 0), (1, .int v1)], [.int (h 56 1), .int v1])) (S' := (am_sh, h, hm, g)) rfl ?_
    refine am_Rn.ite am_h112 (c := (h 56 1) < v1) (t := 18) (f := 20) (lv := [(0, .ref 0), (1, .int v1)]) (st := []) (S' := (am_sh, h, hm, g)) rfl hp (fun hc2 hp => ?_) (fun hc2 hp => ?_)
    · refine am_Rn.run am_h112 1 (F' := (19, [(0, .ref 0), (1, .int v1)], [.int (-1)])) (S' := (am_sh, h, hm, g)) rfl ?_
      subst hp
      exact am_Rn.ret am_h112 rfl
    · obtain ⟨h3, h_h3, hp⟩ := am_b_e hp
      refine am_Rn.run am_h112 6 (F' := (32, [(0, .ref 0), (1, .int v1)], [.int v1])) (S' := (am_sh, h3, hm, g)) (by subst h_h3; rfl) ?_
      subst hp
      exact am_Rn.ret am_h112 rfl
/-- SixHands$Text.empty()V ['t'] -/
def zX_empty (v0 : Nat) (h : (Nat → Nat → Int32)) : (Nat → Nat → Int32) := am_b (va_up h v0 (upd (h v0) 0 0)) fun h1 => am_b (va_up h1 v0 (upd (h1 v0) 4 0)) fun h2 => am_b (va_up h2 (v0 + 5) (zfill 3 0 (h2 (v0 + 5)))) fun h3 => am_b (va_up h3 (v0 + 6) (zfill 3 0 (h3 (v0 + 6)))) fun h4 => h4
set_option maxRecDepth 20000 in
theorem ezX_empty {d : Nat} (hd : 1 ≤ d) (v0 : Nat) (h : (Nat → Nat → Int32)) (hk_v0 : zK v0) : am_Ev 83 Xs am_P d 103 [.ref v0] (am_sh, h, hm, g) (none, (am_sh, (zX_empty v0 h), hm, g)) := by
  obtain ⟨R, hp⟩ : ∃ R, zX_empty v0 h = R := ⟨_, rfl⟩
  rw [hp]
  obtain ⟨d, rfl⟩ : ∃ k, d = k + 1 := ⟨d - 1, by omega⟩
  unfold zX_empty at hp
  show am_Rn 83 Xs am_P _ 103 (0, [(0, .ref v0)], []) _ _
  obtain ⟨h1, h_h1, hp⟩ := am_b_e hp
  obtain ⟨h2, h_h2, hp⟩ := am_b_e hp
  refine am_Rn.run am_h103 9 (F' := (15, [(0, .ref v0)], [.int 0, .ref (v0 + 5)])) (S' := (am_sh, h2, hm, g)) (by subst h_h1; subst h_h2; rcases hk_v0 with rfl | rfl | rfl | rfl | rfl <;> rfl) ?_
  obtain ⟨h3, h_h3, hp⟩ := am_b_e hp
  refine am_Rn.call am_h103 (mj := 6) (As := [.ref (v0 + 5), .int 0]) (F' := (18, [(0, .ref v0)], [])) (M' := am_m6) (r := none) (S1 := (am_sh, h3, hm, g)) (by rcases hk_v0 with rfl | rfl | rfl | rfl | rfl <;> rfl) am_h6 rfl (by subst h_h3; rcases hk_v0 with rfl | rfl | rfl | rfl | rfl <;> exact ezD_fill (n := 3) rfl (by decide)) ?_
  refine am_Rn.run am_h103 3 (F' := (23, [(0, .ref v0)], [.int 0, .ref (v0 + 6)])) (S' := (am_sh, h3, hm, g)) (by rcases hk_v0 with rfl | rfl | rfl | rfl | rfl <;> rfl) ?_
  obtain ⟨h4, h_h4, hp⟩ := am_b_e hp
  refine am_Rn.call am_h103 (mj := 6) (As := [.ref (v0 + 6), .int 0]) (F' := (26, [(0, .ref v0)], [])) (M' := am_m6) (r := none) (S1 := (am_sh, h4, hm, g)) (by rcases hk_v0 with rfl | rfl | rfl | rfl | rfl <;> rfl) am_h6 rfl (by subst h_h4; rcases hk_v0 with rfl | rfl | rfl | rfl | rfl <;> exact ezD_fill (n := 3) rfl (by decide)) ?_
  subst hp
  exact am_Rn.ret am_h103 (by rcases hk_v0 with rfl | rfl | rfl | rfl | rfl <;> rfl)
/-- SixHands$Tape.isLetter(I)Z [] -/
def zT_isLetter_J12 (v0 : Int32) : Int32 := if v0 < 65 then (0) else (if 90 < v0 then (0) else (1))
set_option maxRecDepth 20000 in
theorem ezT_isLetter_J12 {d : Nat} (hd : 0 ≤ d) (R : Int32) (v0 : Int32) (hp : zT_isLetter_J12 v0 = R) : am_Rn 83 Xs am_P d 95 (12, [(0, .int v0)], []) S (some (.int R), S) := by
  unfold zT_isLetter_J12 at hp
  refine am_Rn.run am_h95 2 (F' := (15, [(0, .int v0)], [.int 65, .int v0])) (S' := S) rfl ?_
  refine am_Rn.ite am_h95 (c := v0 < 65) (t := 28) (f := 18) (lv := [(0, .int v0)]) (st := []) (S' := S) rfl hp (fun hc2 hp => ?_) (fun hc2 hp => ?_)
  · refine am_Rn.run am_h95 1 (F' := (29, [(0, .int v0)], [.int 0])) (S' := S) rfl ?_
    subst hp
    exact am_Rn.ret am_h95 rfl
  · refine am_Rn.run am_h95 2 (F' := (21, [(0, .int v0)], [.int 90, .int v0])) (S' := S) rfl ?_
    refine am_Rn.ite am_h95 (c := 90 < v0) (t := 28) (f := 24) (lv := [(0, .int v0)]) (st := []) (S' := S) rfl hp (fun hc3 hp => ?_) (fun hc3 hp => ?_)
    · refine am_Rn.run am_h95 1 (F' := (29, [(0, .int v0)], [.int 0])) (S' := S) rfl ?_
      subst hp
      exact am_Rn.ret am_h95 rfl
    · refine am_Rn.run am_h95 2 (F' := (29, [(0, .int v0)], [.int 1])) (S' := S) rfl ?_
      subst hp
      exact am_Rn.ret am_h95 rfl
def zT_isLetter (v0 : Int32) : Int32 := if v0 < 97 then (zT_isLetter_J12 v0) else (if 122 < v0 then (zT_isLetter_J12 v0) else (1))
set_option maxRecDepth 20000 in
theorem ezT_isLetter {d : Nat} (hd : 0 ≤ d) (v0 : Int32) : am_Ev 83 Xs am_P d 95 [.int v0] S (some (.int ((zT_isLetter v0))), S) := by
  obtain ⟨R, hp⟩ : ∃ R, zT_isLetter v0 = R := ⟨_, rfl⟩
  rw [hp]
  unfold zT_isLetter at hp
  show am_Rn 83 Xs am_P _ 95 (0, [(0, .int v0)], []) _ _
  refine am_Rn.run am_h95 2 (F' := (3, [(0, .int v0)], [.int 97, .int v0])) (S' := S) rfl ?_
  refine am_Rn.ite am_h95 (c := v0 < 97) (t := 12) (f := 6) (lv := [(0, .int v0)]) (st := []) (S' := S) rfl hp (fun hc1 hp => ?_) (fun hc1 hp => ?_)
  · exact ezT_isLetter_J12 hd R v0 hp
  · refine am_Rn.run am_h95 2 (F' := (9, [(0, .int v0)], [.int 122, .int v0])) (S' := S) rfl ?_
    refine am_Rn.ite am_h95 (c := 122 < v0) (t := 12) (f := 24) (lv := [(0, .int v0)]) (st := []) (S' := S) rfl hp (fun hc4 hp => ?_) (fun hc4 hp => ?_)
    · exact ezT_isLetter_J12 hd R v0 hp
    · refine am_Rn.run am_h95 2 (F' := (29, [(0, .int v0)], [.int 1])) (S' := S) rfl ?_
      subst hp
      exact am_Rn.ret am_h95 rfl
/-- SixHands$Tape.isDigit(I)Z [] -/
def zT_isDigit (v0 : Int32) : Int32 := if v0 < 48 then (0) else (if 57 < v0 then (0) else (1))
set_option maxRecDepth 20000 in
theorem ezT_isDigit {d : Nat} (hd : 0 ≤ d) (v0 : Int32) : am_Ev 83 Xs am_P d 96 [.int v0] S (some (.int ((zT_isDigit v0))), S) := by
  obtain ⟨R, hp⟩ : ∃ R, zT_isDigit v0 = R := ⟨_, rfl⟩
  rw [hp]
  unfold zT_isDigit at hp
  show am_Rn 83 Xs am_P _ 96 (0, [(0, .int v0)], []) _ _
  refine am_Rn.run am_h96 2 (F' := (3, [(0, .int v0)], [.int 48, .int v0])) (S' := S) rfl ?_
  refine am_Rn.ite am_h96 (c := v0 < 48) (t := 16) (f := 6) (lv := [(0, .int v0)]) (st := []) (S' := S) rfl hp (fun hc1 hp => ?_) (fun hc1 hp => ?_)
  · refine am_Rn.run am_h96 1 (F' := (17, [(0, .int v0)], [.int 0])) (S' := S) rfl ?_
    subst hp
    exact am_Rn.ret am_h96 rfl
  · refine am_Rn.run am_h96 2 (F' := (9, [(0, .int v0)], [.int 57, .int v0])) (S' := S) rfl ?_
    refine am_Rn.ite am_h96 (c := 57 < v0) (t := 16) (f := 12) (lv := [(0, .int v0)]) (st := []) (S' := S) rfl hp (fun hc2 hp => ?_) (fun hc2 hp => ?_)
    · refine am_Rn.run am_h96 1 (F' := (17, [(0, .int v0)], [.int 0])) (S' := S) rfl ?_
      subst hp
      exact am_Rn.ret am_h96 rfl
    · refine am_Rn.run am_h96 2 (F' := (17, [(0, .int v0)], [.int 1])) (S' := S) rfl ?_
      subst hp
      exact am_Rn.ret am_h96 rfl
/-- SixHands$Tape.signToken(I)I [] -/
def zT_signToken (v0 : Int32) : Int32 := if v0 = 35 then (26) else if v0 = 36 then (37) else if v0 = 37 then (37) else if v0 = 38 then (37) else if v0 = 39 then (37) else if v0 = 40 then (31) else if v0 = 41 then (32) else if v0 = 42 then (29) else if v0 = 43 then (27) else if v0 = 44 then (33) else if v0 = 45 then (28) else if v0 = 46 then (37) else if v0 = 47 then (30) else if v0 = 48 then (37) else if v0 = 49 then (37) else if v0 = 50 then (37) else if v0 = 51 then (37) else if v0 = 52 then (37) else if v0 = 53 then (37) else if v0 = 54 then (37) else if v0 = 55 then (37) else if v0 = 56 then (37) else if v0 = 57 then (37) else if v0 = 58 then (37) else if v0 = 59 then (34) else if v0 = 60 then (21) else if v0 = 61 then (25) else if v0 = 62 then (23) else (37)
set_option maxRecDepth 20000 in
theorem ezT_signToken {d : Nat} (hd : 0 ≤ d) (v0 : Int32) : am_Ev 83 Xs am_P d 101 [.int v0] S (some (.int ((zT_signToken v0))), S) := by
  obtain ⟨R, hp⟩ : ∃ R, zT_signToken v0 = R := ⟨_, rfl⟩
  rw [hp]
  unfold zT_signToken at hp
  show am_Rn 83 Xs am_P _ 101 (0, [(0, .int v0)], []) _ _
  refine am_Rn.run am_h101 1 (F' := (1, [(0, .int v0)], [.int v0])) (S' := S) rfl ?_
  refine am_Rn.step am_h101 (F' := (am_sw v0 35 164 [137, 164, 164, 164, 164, 152, 155, 146, 140, 158, 143, 164, 149, 164, 164, 164, 164, 164, 164, 164, 164, 164, 164, 164, 161, 128, 134, 131], [(0, .int v0)], [])) (S' := S) rfl ?_
  refine am_ite hp (fun hc1 hp => ?_) (fun hc1 hp => ?_)
  · rw [show am_sw v0 35 164 [137, 164, 164, 164, 164, 152, 155, 146, 140, 158, 143, 164, 149, 164, 164, 164, 164, 164, 164, 164, 164, 164, 164, 164, 161, 128, 134, 131] = 137 from by subst hc1; rfl]
    refine am_Rn.run am_h101 1 (F' := (139, [(0, .int v0)], [.int 26])) (S' := S) rfl ?_
    subst hp
    exact am_Rn.ret am_h101 rfl
  refine am_ite hp (fun hc2 hp => ?_) (fun hc2 hp => ?_)
  · rw [show am_sw v0 35 164 [137, 164, 164, 164, 164, 152, 155, 146, 140, 158, 143, 164, 149, 164, 164, 164, 164, 164, 164, 164, 164, 164, 164, 164, 161, 128, 134, 131] = 164 from by subst hc2; rfl]
    refine am_Rn.run am_h101 1 (F' := (166, [(0, .int v0)], [.int 37])) (S' := S) rfl ?_
    subst hp
    exact am_Rn.ret am_h101 rfl
  refine am_ite hp (fun hc3 hp => ?_) (fun hc3 hp => ?_)
  · rw [show am_sw v0 35 164 [137, 164, 164, 164, 164, 152, 155, 146, 140, 158, 143, 164, 149, 164, 164, 164, 164, 164, 164, 164, 164, 164, 164, 164, 161, 128, 134, 131] = 164 from by subst hc3; rfl]
    refine am_Rn.run am_h101 1 (F' := (166, [(0, .int v0)], [.int 37])) (S' := S) rfl ?_
    subst hp
    exact am_Rn.ret am_h101 rfl
  refine am_ite hp (fun hc4 hp => ?_) (fun hc4 hp => ?_)
  · rw [show am_sw v0 35 164 [137, 164, 164, 164, 164, 152, 155, 146, 140, 158, 143, 164, 149, 164, 164, 164, 164, 164, 164, 164, 164, 164, 164, 164, 161, 128, 134, 131] = 164 from by subst hc4; rfl]
    refine am_Rn.run am_h101 1 (F' := (166, [(0, .int v0)], [.int 37])) (S' := S) rfl ?_
    subst hp
    exact am_Rn.ret am_h101 rfl
  refine am_ite hp (fun hc5 hp => ?_) (fun hc5 hp => ?_)
  · rw [show am_sw v0 35 164 [137, 164, 164, 164, 164, 152, 155, 146, 140, 158, 143, 164, 149, 164, 164, 164, 164, 164, 164, 164, 164, 164, 164, 164, 161, 128, 134, 131] = 164 from by subst hc5; rfl]
    refine am_Rn.run am_h101 1 (F' := (166, [(0, .int v0)], [.int 37])) (S' := S) rfl ?_
    subst hp
    exact am_Rn.ret am_h101 rfl
  refine am_ite hp (fun hc6 hp => ?_) (fun hc6 hp => ?_)
  · rw [show am_sw v0 35 164 [137, 164, 164, 164, 164, 152, 155, 146, 140, 158, 143, 164, 149, 164, 164, 164, 164, 164, 164, 164, 164, 164, 164, 164, 161, 128, 134, 131] = 152 from by subst hc6; rfl]
    refine am_Rn.run am_h101 1 (F' := (154, [(0, .int v0)], [.int 31])) (S' := S) rfl ?_
    subst hp
    exact am_Rn.ret am_h101 rfl
  refine am_ite hp (fun hc7 hp => ?_) (fun hc7 hp => ?_)
  · rw [show am_sw v0 35 164 [137, 164, 164, 164, 164, 152, 155, 146, 140, 158, 143, 164, 149, 164, 164, 164, 164, 164, 164, 164, 164, 164, 164, 164, 161, 128, 134, 131] = 155 from by subst hc7; rfl]
    refine am_Rn.run am_h101 1 (F' := (157, [(0, .int v0)], [.int 32])) (S' := S) rfl ?_
    subst hp
    exact am_Rn.ret am_h101 rfl
  refine am_ite hp (fun hc8 hp => ?_) (fun hc8 hp => ?_)
  · rw [show am_sw v0 35 164 [137, 164, 164, 164, 164, 152, 155, 146, 140, 158, 143, 164, 149, 164, 164, 164, 164, 164, 164, 164, 164, 164, 164, 164, 161, 128, 134, 131] = 146 from by subst hc8; rfl]
    refine am_Rn.run am_h101 1 (F' := (148, [(0, .int v0)], [.int 29])) (S' := S) rfl ?_
    subst hp
    exact am_Rn.ret am_h101 rfl
  refine am_ite hp (fun hc9 hp => ?_) (fun hc9 hp => ?_)
  · rw [show am_sw v0 35 164 [137, 164, 164, 164, 164, 152, 155, 146, 140, 158, 143, 164, 149, 164, 164, 164, 164, 164, 164, 164, 164, 164, 164, 164, 161, 128, 134, 131] = 140 from by subst hc9; rfl]
    refine am_Rn.run am_h101 1 (F' := (142, [(0, .int v0)], [.int 27])) (S' := S) rfl ?_
    subst hp
    exact am_Rn.ret am_h101 rfl
  refine am_ite hp (fun hc10 hp => ?_) (fun hc10 hp => ?_)
  · rw [show am_sw v0 35 164 [137, 164, 164, 164, 164, 152, 155, 146, 140, 158, 143, 164, 149, 164, 164, 164, 164, 164, 164, 164, 164, 164, 164, 164, 161, 128, 134, 131] = 158 from by subst hc10; rfl]
    refine am_Rn.run am_h101 1 (F' := (160, [(0, .int v0)], [.int 33])) (S' := S) rfl ?_
    subst hp
    exact am_Rn.ret am_h101 rfl
  refine am_ite hp (fun hc11 hp => ?_) (fun hc11 hp => ?_)
  · rw [show am_sw v0 35 164 [137, 164, 164, 164, 164, 152, 155, 146, 140, 158, 143, 164, 149, 164, 164, 164, 164, 164, 164, 164, 164, 164, 164, 164, 161, 128, 134, 131] = 143 from by subst hc11; rfl]
    refine am_Rn.run am_h101 1 (F' := (145, [(0, .int v0)], [.int 28])) (S' := S) rfl ?_
    subst hp
    exact am_Rn.ret am_h101 rfl
  refine am_ite hp (fun hc12 hp => ?_) (fun hc12 hp => ?_)
  · rw [show am_sw v0 35 164 [137, 164, 164, 164, 164, 152, 155, 146, 140, 158, 143, 164, 149, 164, 164, 164, 164, 164, 164, 164, 164, 164, 164, 164, 161, 128, 134, 131] = 164 from by subst hc12; rfl]
    refine am_Rn.run am_h101 1 (F' := (166, [(0, .int v0)], [.int 37])) (S' := S) rfl ?_
    subst hp
    exact am_Rn.ret am_h101 rfl
  refine am_ite hp (fun hc13 hp => ?_) (fun hc13 hp => ?_)
  · rw [show am_sw v0 35 164 [137, 164, 164, 164, 164, 152, 155, 146, 140, 158, 143, 164, 149, 164, 164, 164, 164, 164, 164, 164, 164, 164, 164, 164, 161, 128, 134, 131] = 149 from by subst hc13; rfl]
    refine am_Rn.run am_h101 1 (F' := (151, [(0, .int v0)], [.int 30])) (S' := S) rfl ?_
    subst hp
    exact am_Rn.ret am_h101 rfl
  refine am_ite hp (fun hc14 hp => ?_) (fun hc14 hp => ?_)
  · rw [show am_sw v0 35 164 [137, 164, 164, 164, 164, 152, 155, 146, 140, 158, 143, 164, 149, 164, 164, 164, 164, 164, 164, 164, 164, 164, 164, 164, 161, 128, 134, 131] = 164 from by subst hc14; rfl]
    refine am_Rn.run am_h101 1 (F' := (166, [(0, .int v0)], [.int 37])) (S' := S) rfl ?_
    subst hp
    exact am_Rn.ret am_h101 rfl
  refine am_ite hp (fun hc15 hp => ?_) (fun hc15 hp => ?_)
  · rw [show am_sw v0 35 164 [137, 164, 164, 164, 164, 152, 155, 146, 140, 158, 143, 164, 149, 164, 164, 164, 164, 164, 164, 164, 164, 164, 164, 164, 161, 128, 134, 131] = 164 from by subst hc15; rfl]
    refine am_Rn.run am_h101 1 (F' := (166, [(0, .int v0)], [.int 37])) (S' := S) rfl ?_
    subst hp
    exact am_Rn.ret am_h101 rfl
  refine am_ite hp (fun hc16 hp => ?_) (fun hc16 hp => ?_)
  · rw [show am_sw v0 35 164 [137, 164, 164, 164, 164, 152, 155, 146, 140, 158, 143, 164, 149, 164, 164, 164, 164, 164, 164, 164, 164, 164, 164, 164, 161, 128, 134, 131] = 164 from by subst hc16; rfl]
    refine am_Rn.run am_h101 1 (F' := (166, [(0, .int v0)], [.int 37])) (S' := S) rfl ?_
    subst hp
    exact am_Rn.ret am_h101 rfl
  refine am_ite hp (fun hc17 hp => ?_) (fun hc17 hp => ?_)
  · rw [show am_sw v0 35 164 [137, 164, 164, 164, 164, 152, 155, 146, 140, 158, 143, 164, 149, 164, 164, 164, 164, 164, 164, 164, 164, 164, 164, 164, 161, 128, 134, 131] = 164 from by subst hc17; rfl]
    refine am_Rn.run am_h101 1 (F' := (166, [(0, .int v0)], [.int 37])) (S' := S) rfl ?_
    subst hp
    exact am_Rn.ret am_h101 rfl
  refine am_ite hp (fun hc18 hp => ?_) (fun hc18 hp => ?_)
  · rw [show am_sw v0 35 164 [137, 164, 164, 164, 164, 152, 155, 146, 140, 158, 143, 164, 149, 164, 164, 164, 164, 164, 164, 164, 164, 164, 164, 164, 161, 128, 134, 131] = 164 from by subst hc18; rfl]
    refine am_Rn.run am_h101 1 (F' := (166, [(0, .int v0)], [.int 37])) (S' := S) rfl ?_
    subst hp
    exact am_Rn.ret am_h101 rfl
  refine am_ite hp (fun hc19 hp => ?_) (fun hc19 hp => ?_)
  · rw [show am_sw v0 35 164 [137, 164, 164, 164, 164, 152, 155, 146, 140, 158, 143, 164, 149, 164, 164, 164, 164, 164, 164, 164, 164, 164, 164, 164, 161, 128, 134, 131] = 164 from by subst hc19; rfl]
    refine am_Rn.run am_h101 1 (F' := (166, [(0, .int v0)], [.int 37])) (S' := S) rfl ?_
    subst hp
    exact am_Rn.ret am_h101 rfl
  refine am_ite hp (fun hc20 hp => ?_) (fun hc20 hp => ?_)
  · rw [show am_sw v0 35 164 [137, 164, 164, 164, 164, 152, 155, 146, 140, 158, 143, 164, 149, 164, 164, 164, 164, 164, 164, 164, 164, 164, 164, 164, 161, 128, 134, 131] = 164 from by subst hc20; rfl]
    refine am_Rn.run am_h101 1 (F' := (166, [(0, .int v0)], [.int 37])) (S' := S) rfl ?_
    subst hp
    exact am_Rn.ret am_h101 rfl
  refine am_ite hp (fun hc21 hp => ?_) (fun hc21 hp => ?_)
  · rw [show am_sw v0 35 164 [137, 164, 164, 164, 164, 152, 155, 146, 140, 158, 143, 164, 149, 164, 164, 164, 164, 164, 164, 164, 164, 164, 164, 164, 161, 128, 134, 131] = 164 from by subst hc21; rfl]
    refine am_Rn.run am_h101 1 (F' := (166, [(0, .int v0)], [.int 37])) (S' := S) rfl ?_
    subst hp
    exact am_Rn.ret am_h101 rfl
  refine am_ite hp (fun hc22 hp => ?_) (fun hc22 hp => ?_)
  · rw [show am_sw v0 35 164 [137, 164, 164, 164, 164, 152, 155, 146, 140, 158, 143, 164, 149, 164, 164, 164, 164, 164, 164, 164, 164, 164, 164, 164, 161, 128, 134, 131] = 164 from by subst hc22; rfl]
    refine am_Rn.run am_h101 1 (F' := (166, [(0, .int v0)], [.int 37])) (S' := S) rfl ?_
    subst hp
    exact am_Rn.ret am_h101 rfl
  refine am_ite hp (fun hc23 hp => ?_) (fun hc23 hp => ?_)
  · rw [show am_sw v0 35 164 [137, 164, 164, 164, 164, 152, 155, 146, 140, 158, 143, 164, 149, 164, 164, 164, 164, 164, 164, 164, 164, 164, 164, 164, 161, 128, 134, 131] = 164 from by subst hc23; rfl]
    refine am_Rn.run am_h101 1 (F' := (166, [(0, .int v0)], [.int 37])) (S' := S) rfl ?_
    subst hp
    exact am_Rn.ret am_h101 rfl
  refine am_ite hp (fun hc24 hp => ?_) (fun hc24 hp => ?_)
  · rw [show am_sw v0 35 164 [137, 164, 164, 164, 164, 152, 155, 146, 140, 158, 143, 164, 149, 164, 164, 164, 164, 164, 164, 164, 164, 164, 164, 164, 161, 128, 134, 131] = 164 from by subst hc24; rfl]
    refine am_Rn.run am_h101 1 (F' := (166, [(0, .int v0)], [.int 37])) (S' := S) rfl ?_
    subst hp
    exact am_Rn.ret am_h101 rfl
  refine am_ite hp (fun hc25 hp => ?_) (fun hc25 hp => ?_)
  · rw [show am_sw v0 35 164 [137, 164, 164, 164, 164, 152, 155, 146, 140, 158, 143, 164, 149, 164, 164, 164, 164, 164, 164, 164, 164, 164, 164, 164, 161, 128, 134, 131] = 161 from by subst hc25; rfl]
    refine am_Rn.run am_h101 1 (F' := (163, [(0, .int v0)], [.int 34])) (S' := S) rfl ?_
    subst hp
    exact am_Rn.ret am_h101 rfl
  refine am_ite hp (fun hc26 hp => ?_) (fun hc26 hp => ?_)
  · rw [show am_sw v0 35 164 [137, 164, 164, 164, 164, 152, 155, 146, 140, 158, 143, 164, 149, 164, 164, 164, 164, 164, 164, 164, 164, 164, 164, 164, 161, 128, 134, 131] = 128 from by subst hc26; rfl]
    refine am_Rn.run am_h101 1 (F' := (130, [(0, .int v0)], [.int 21])) (S' := S) rfl ?_
    subst hp
    exact am_Rn.ret am_h101 rfl
  refine am_ite hp (fun hc27 hp => ?_) (fun hc27 hp => ?_)
  · rw [show am_sw v0 35 164 [137, 164, 164, 164, 164, 152, 155, 146, 140, 158, 143, 164, 149, 164, 164, 164, 164, 164, 164, 164, 164, 164, 164, 164, 161, 128, 134, 131] = 134 from by subst hc27; rfl]
    refine am_Rn.run am_h101 1 (F' := (136, [(0, .int v0)], [.int 25])) (S' := S) rfl ?_
    subst hp
    exact am_Rn.ret am_h101 rfl
  refine am_ite hp (fun hc28 hp => ?_) (fun hc28 hp => ?_)
  · rw [show am_sw v0 35 164 [137, 164, 164, 164, 164, 152, 155, 146, 140, 158, 143, 164, 149, 164, 164, 164, 164, 164, 164, 164, 164, 164, 164, 164, 161, 128, 134, 131] = 131 from by subst hc28; rfl]
    refine am_Rn.run am_h101 1 (F' := (133, [(0, .int v0)], [.int 23])) (S' := S) rfl ?_
    subst hp
    exact am_Rn.ret am_h101 rfl
  · rw [show am_sw v0 35 164 [137, 164, 164, 164, 164, 152, 155, 146, 140, 158, 143, 164, 149, 164, 164, 164, 164, 164, 164, 164, 164, 164, 164, 164, 161, 128, 134, 131] = 164 from (if_neg hc1).trans ((if_neg hc2).trans ((if_neg hc3).trans ((if_neg hc4).trans ((if_neg hc5).trans ((if_neg hc6).trans ((if_neg hc7).trans ((if_neg hc8).trans ((if_neg hc9).trans ((if_neg hc10).trans ((if_neg hc11).trans ((if_neg hc12).trans ((if_neg hc13).trans ((if_neg hc14).trans ((if_neg hc15).trans ((if_neg hc16).trans ((if_neg hc17).trans ((if_neg hc18).trans ((if_neg hc19).trans ((if_neg hc20).trans ((if_neg hc21).trans ((if_neg hc22).trans ((if_neg hc23).trans ((if_neg hc24).trans ((if_neg hc25).trans ((if_neg hc26).trans ((if_neg hc27).trans ((if_neg hc28).trans (rfl))))))))))))))))))))))))))))]
    refine am_Rn.run am_h101 1 (F' := (166, [(0, .int v0)], [.int 37])) (S' := S) rfl ?_
    subst hp
    exact am_Rn.ret am_h101 rfl
/-- SixHands$Tape.takeSign()V [56] -/
def zT_takeSign_J88 (s1 : Int32) (h : (Nat → Nat → Int32)) : Option ((Nat → Nat → Int32)) := am_b (va_up h 56 (upd (h 56) 3 s1)) fun h11 => am_b (va_up h11 56 (upd (h11 56) 2 ((h11 56 2) + 1))) fun h12 => some h12
set_option maxRecDepth 20000 in
theorem ezT_takeSign_J88 {d : Nat} (hd : 1 ≤ d) (R : (Nat → Nat → Int32)) (s1 : Int32) (h : (Nat → Nat → Int32)) (hp : zT_takeSign_J88 s1 h = some R) : am_Rn 83 Xs am_P d 100 (88, [(0, .ref 56)], [.int s1, .ref 56]) (am_sh, h, hm, g) (none, (am_sh, R, hm, g)) := by
  obtain ⟨d, rfl⟩ : ∃ k, d = k + 1 := ⟨d - 1, by omega⟩
  unfold zT_takeSign_J88 at hp
  obtain ⟨h11, h_h11, hp⟩ := am_b_e hp
  obtain ⟨h12, h_h12, hp⟩ := am_b_e hp
  refine am_Rn.run am_h100 7 (F' := (101, [(0, .ref 56)], [])) (S' := (am_sh, h12, hm, g)) (by subst h_h11; subst h_h12; rfl) ?_
  cases hp
  exact am_Rn.ret am_h100 rfl
def zT_takeSign_J46 (h : (Nat → Nat → Int32)) : Option ((Nat → Nat → Int32)) := if (h 56 2) < (h 56 1) then (am_ix 300 (h 56 2) (if (h 57 ((h 56 2).toNatClampNeg)) = 61 then (if (h 56 3) = 21 then (zT_takeSign_J88 22 h) else (zT_takeSign_J88 24 h)) else (some h))) else (some h)
set_option maxRecDepth 20000 in
theorem ezT_takeSign_J46 {d : Nat} (hd : 1 ≤ d) (R : (Nat → Nat → Int32)) (h : (Nat → Nat → Int32)) (hp : zT_takeSign_J46 h = some R) : am_Rn 83 Xs am_P d 100 (46, [(0, .ref 56)], []) (am_sh, h, hm, g) (none, (am_sh, R, hm, g)) := by
  obtain ⟨d, rfl⟩ : ∃ k, d = k + 1 := ⟨d - 1, by omega⟩
  unfold zT_takeSign_J46 at hp
  refine am_Rn.run am_h100 4 (F' := (54, [(0, .ref 56)], [.int (h 56 1), .int (h 56 2)])) (S' := (am_sh, h, hm, g)) rfl ?_
  refine am_Rn.ite am_h100 (c := (h 56 2) < (h 56 1)) (t := 57) (f := 101) (lv := [(0, .ref 56)]) (st := []) (S' := (am_sh, h, hm, g)) rfl hp (fun hc7 hp => ?_) (fun hc7 hp => ?_)
  · refine am_Rn.run am_h100 4 (F' := (65, [(0, .ref 56)], [.int (h 56 2), .ref 57])) (S' := (am_sh, h, hm, g)) rfl ?_
    obtain ⟨hn8, hp⟩ := am_ix_e hp
    refine am_Rn.stepG am_h100 (c := (h 56 2) < 0 ∨ 300 ≤ (h 56 2).toNatClampNeg) (F' := (66, [(0, .ref 56)], [.int (h 57 ((h 56 2).toNatClampNeg))])) (S' := (am_sh, h, hm, g)) rfl hn8 ?_
    refine am_Rn.run am_h100 1 (F' := (68, [(0, .ref 56)], [.int 61, .int (h 57 ((h 56 2).toNatClampNeg))])) (S' := (am_sh, h, hm, g)) rfl ?_
    refine am_Rn.ite am_h100 (c := (h 57 ((h 56 2).toNatClampNeg)) = 61) (t := 71) (f := 101) (lv := [(0, .ref 56)]) (st := []) (S' := (am_sh, h, hm, g)) rfl hp (fun hc9 hp => ?_) (fun hc9 hp => ?_)
    · refine am_Rn.run am_h100 4 (F' := (78, [(0, .ref 56)], [.int 21, .int (h 56 3), .ref 56])) (S' := (am_sh, h, hm, g)) rfl ?_
      refine am_Rn.ite am_h100 (c := (h 56 3) = 21) (t := 81) (f := 86) (lv := [(0, .ref 56)]) (st := [.ref 56]) (S' := (am_sh, h, hm, g)) rfl hp (fun hc10 hp => ?_) (fun hc10 hp => ?_)
      · refine am_Rn.run am_h100 2 (F' := (88, [(0, .ref 56)], [.int 22, .ref 56])) (S' := (am_sh, h, hm, g)) rfl ?_
        exact ezT_takeSign_J88 hd R 22 h hp
      · refine am_Rn.run am_h100 1 (F' := (88, [(0, .ref 56)], [.int 24, .ref 56])) (S' := (am_sh, h, hm, g)) rfl ?_
        exact ezT_takeSign_J88 hd R 24 h hp
    · cases hp
      exact am_Rn.ret am_h100 rfl
  · cases hp
    exact am_Rn.ret am_h100 rfl
def zT_takeSign (h : (Nat → Nat → Int32)) : Option ((Nat → Nat → Int32)) := am_ix 300 (h 56 2) (am_b (h 57 ((h 56 2).toNatClampNeg)) fun x2 => am_b (va_up h 56 (upd (h 56) 2 ((h 56 2) + 1))) fun h3 => am_b (zT_signToken x2) fun r4 => am_b (va_up h3 56 (upd (h3 56) 3 r4)) fun h5 => if (h5 56 3) = 21 then (zT_takeSign_J46 h5) else (if (h5 56 3) = 23 then (zT_takeSign_J46 h5) else (some h5)))
set_option maxRecDepth 20000 in
theorem ezT_takeSign {d : Nat} (hd : 1 ≤ d) (h : (Nat → Nat → Int32)) (R : (Nat → Nat → Int32)) (hp : zT_takeSign h = some R) : am_Ev 83 Xs am_P d 100 [.ref 56] (am_sh, h, hm, g) (none, (am_sh, R, hm, g)) := by
  obtain ⟨d, rfl⟩ : ∃ k, d = k + 1 := ⟨d - 1, by omega⟩
  unfold zT_takeSign at hp
  show am_Rn 83 Xs am_P _ 100 (0, [(0, .ref 56)], []) _ _
  refine am_Rn.run am_h100 4 (F' := (8, [(0, .ref 56)], [.int (h 56 2), .ref 57])) (S' := (am_sh, h, hm, g)) rfl ?_
  obtain ⟨hn1, hp⟩ := am_ix_e hp
  refine am_Rn.stepG am_h100 (c := (h 56 2) < 0 ∨ 300 ≤ (h 56 2).toNatClampNeg) (F' := (9, [(0, .ref 56)], [.int (h 57 ((h 56 2).toNatClampNeg))])) (S' := (am_sh, h, hm, g)) rfl hn1 ?_
  obtain ⟨x2, h_x2, hp⟩ := am_b_e hp
  obtain ⟨h3, h_h3, hp⟩ := am_b_e hp
  refine am_Rn.run am_h100 9 (F' := (22, [(1, .int x2), (0, .ref 56)], [.int x2, .ref 56])) (S' := (am_sh, h3, hm, g)) (by subst h_x2; subst h_h3; rfl) ?_
  obtain ⟨r4, h_r4, hp⟩ := am_b_e hp
  refine am_Rn.call am_h100 (mj := 101) (As := [.int x2]) (F' := (25, [(1, .int x2), (0, .ref 56)], [.ref 56])) (M' := am_m101) (r := some (.int r4)) (S1 := (am_sh, h3, hm, g)) rfl am_h101 rfl (by subst h_r4; exact (ezT_signToken (by omega) x2)) ?_
  obtain ⟨h5, h_h5, hp⟩ := am_b_e hp
  refine am_Rn.run am_h100 4 (F' := (34, [(1, .int x2), (0, .ref 56)], [.int 21, .int (h5 56 3)])) (S' := (am_sh, h5, hm, g)) (by subst h_h5; rfl) ?_
  refine am_Rn.ite am_h100 (c := (h5 56 3) = 21) (t := 46) (f := 37) (lv := [(1, .int x2), (0, .ref 56)]) (st := []) (S' := (am_sh, h5, hm, g)) rfl hp (fun hc6 hp => ?_) (fun hc6 hp => ?_)
  · refine am_Rn.sub [1] rfl rfl ?_
    exact ezT_takeSign_J46 hd R h5 hp
  · refine am_Rn.run am_h100 3 (F' := (43, [(1, .int x2), (0, .ref 56)], [.int 23, .int (h5 56 3)])) (S' := (am_sh, h5, hm, g)) rfl ?_
    refine am_Rn.ite am_h100 (c := (h5 56 3) = 23) (t := 46) (f := 101) (lv := [(1, .int x2), (0, .ref 56)]) (st := []) (S' := (am_sh, h5, hm, g)) rfl hp (fun hc13 hp => ?_) (fun hc13 hp => ?_)
    · refine am_Rn.sub [1] rfl rfl ?_
      exact ezT_takeSign_J46 hd R h5 hp
    · cases hp
      exact am_Rn.ret am_h100 rfl
/-- java/lang/Math.min(II)I [] -/
def zD_min (v0 : Int32) (v1 : Int32) : Int32 := if v1 < v0 then (v1) else (v0)
set_option maxRecDepth 20000 in
theorem ezD_min {d : Nat} (hd : 0 ≤ d) (v0 : Int32) (v1 : Int32) : am_Ev 83 Xs am_P d 4 [.int v0, .int v1] S (some (.int ((zD_min v0 v1))), S) := by
  obtain ⟨R, hp⟩ : ∃ R, zD_min v0 v1 = R := ⟨_, rfl⟩
  rw [hp]
  unfold zD_min at hp
  show am_Rn 83 Xs am_P _ 4 (0, [(0, .int v0), (1, .int v1)], []) _ _
  refine am_Rn.run am_h4 2 (F' := (2, [(0, .int v0), (1, .int v1)], [.int v1, .int v0])) (S' := S) rfl ?_
  refine am_Rn.ite am_h4 (c := v1 < v0) (t := 9) (f := 5) (lv := [(0, .int v0), (1, .int v1)]) (st := []) (S' := S) rfl hp (fun hc1 hp => ?_) (fun hc1 hp => ?_)
  · refine am_Rn.run am_h4 1 (F' := (10, [(0, .int v0), (1, .int v1)], [.int v1])) (S' := S) rfl ?_
    subst hp
    exact am_Rn.ret am_h4 rfl
  · refine am_Rn.run am_h4 2 (F' := (10, [(0, .int v0), (1, .int v1)], [.int v0])) (S' := S) rfl ?_
    subst hp
    exact am_Rn.ret am_h4 rfl
/-- SixHands$Tape.takeNumber()V [56] -/
def zT_takeNumber_L11 : Nat → (Nat → Nat → Int32) → Option ((Nat → Nat → Int32))
  | 0, _ => none
  | n + 1, h => if (h 56 2) < (h 56 1) then (am_ix 300 (h 56 2) (am_b (zT_isDigit (h 57 ((h 56 2).toNatClampNeg))) fun r5 => if r5 = 0 then (some h) else (am_ix 300 (h 56 2) (am_b (zD_min 10000 ((((h 56 5) * 10) + (h 57 ((h 56 2).toNatClampNeg))) - 48)) fun r8 => am_b (va_up h 56 (upd (h 56) 5 r8)) fun h9 => am_b (va_up h9 56 (upd (h9 56) 2 ((h9 56 2) + 1))) fun h10 => zT_takeNumber_L11 n h10)))) else (some h)
set_option maxRecDepth 20000 in
theorem ezT_takeNumber_L11 {d : Nat} (hd : 1 ≤ d) (R : (Nat → Nat → Int32)) : ∀ (n : Nat) (h : (Nat → Nat → Int32)), zT_takeNumber_L11 n h = some R → am_Rn 83 Xs am_P d 99 (11, [(0, .ref 56)], []) (am_sh, h, hm, g) (none, (am_sh, R, hm, g))
  | 0, _, hp => by cases hp
  | n + 1, h, hp => by
    obtain ⟨d, rfl⟩ : ∃ k, d = k + 1 := ⟨d - 1, by omega⟩
    unfold zT_takeNumber_L11 at hp
    refine am_Rn.run am_h99 4 (F' := (19, [(0, .ref 56)], [.int (h 56 1), .int (h 56 2)])) (S' := (am_sh, h, hm, g)) rfl ?_
    refine am_Rn.ite am_h99 (c := (h 56 2) < (h 56 1)) (t := 22) (f := 80) (lv := [(0, .ref 56)]) (st := []) (S' := (am_sh, h, hm, g)) rfl hp (fun hc3 hp => ?_) (fun hc3 hp => ?_)
    · refine am_Rn.run am_h99 4 (F' := (30, [(0, .ref 56)], [.int (h 56 2), .ref 57])) (S' := (am_sh, h, hm, g)) rfl ?_
      obtain ⟨hn4, hp⟩ := am_ix_e hp
      refine am_Rn.stepG am_h99 (c := (h 56 2) < 0 ∨ 300 ≤ (h 56 2).toNatClampNeg) (F' := (31, [(0, .ref 56)], [.int (h 57 ((h 56 2).toNatClampNeg))])) (S' := (am_sh, h, hm, g)) rfl hn4 ?_
      obtain ⟨r5, h_r5, hp⟩ := am_b_e hp
      refine am_Rn.call am_h99 (mj := 96) (As := [.int (h 57 ((h 56 2).toNatClampNeg))]) (F' := (34, [(0, .ref 56)], [])) (M' := am_m96) (r := some (.int r5)) (S1 := (am_sh, h, hm, g)) rfl am_h96 rfl (by subst h_r5; exact (ezT_isDigit (by omega) (h 57 ((h 56 2).toNatClampNeg)))) ?_
      refine am_Rn.ite am_h99 (c := r5 = 0) (t := 80) (f := 37) (lv := [(0, .ref 56)]) (st := []) (S' := (am_sh, h, hm, g)) rfl hp (fun hc6 hp => ?_) (fun hc6 hp => ?_)
      · cases hp
        exact am_Rn.ret am_h99 rfl
      · refine am_Rn.run am_h99 10 (F' := (56, [(0, .ref 56)], [.int (h 56 2), .ref 57, .int ((h 56 5) * 10), .int 10000, .ref 56])) (S' := (am_sh, h, hm, g)) rfl ?_
        obtain ⟨hn7, hp⟩ := am_ix_e hp
        refine am_Rn.stepG am_h99 (c := (h 56 2) < 0 ∨ 300 ≤ (h 56 2).toNatClampNeg) (F' := (57, [(0, .ref 56)], [.int (h 57 ((h 56 2).toNatClampNeg)), .int ((h 56 5) * 10), .int 10000, .ref 56])) (S' := (am_sh, h, hm, g)) rfl hn7 ?_
        refine am_Rn.run am_h99 3 (F' := (61, [(0, .ref 56)], [.int ((((h 56 5) * 10) + (h 57 ((h 56 2).toNatClampNeg))) - 48), .int 10000, .ref 56])) (S' := (am_sh, h, hm, g)) rfl ?_
        obtain ⟨r8, h_r8, hp⟩ := am_b_e hp
        refine am_Rn.call am_h99 (mj := 4) (As := [.int 10000, .int ((((h 56 5) * 10) + (h 57 ((h 56 2).toNatClampNeg))) - 48)]) (F' := (64, [(0, .ref 56)], [.ref 56])) (M' := am_m4) (r := some (.int r8)) (S1 := (am_sh, h, hm, g)) rfl am_h4 rfl (by subst h_r8; exact (ezD_min (by omega) 10000 ((((h 56 5) * 10) + (h 57 ((h 56 2).toNatClampNeg))) - 48))) ?_
        obtain ⟨h9, h_h9, hp⟩ := am_b_e hp
        obtain ⟨h10, h_h10, hp⟩ := am_b_e hp
        refine am_Rn.run am_h99 8 (F' := (11, [(0, .ref 56)], [])) (S' := (am_sh, h10, hm, g)) (by subst h_h9; subst h_h10; rfl) ?_
        exact ezT_takeNumber_L11 hd R n h10 hp
    · cases hp
      exact am_Rn.ret am_h99 rfl
def zT_takeNumber (h : (Nat → Nat → Int32)) : Option ((Nat → Nat → Int32)) := am_b (va_up h 56 (upd (h 56) 3 35)) fun h1 => am_b (va_up h1 56 (upd (h1 56) 5 0)) fun h2 => zT_takeNumber_L11 am_N h2
set_option maxRecDepth 20000 in
theorem ezT_takeNumber {d : Nat} (hd : 1 ≤ d) (h : (Nat → Nat → Int32)) (R : (Nat → Nat → Int32)) (hp : zT_takeNumber h = some R) : am_Ev 83 Xs am_P d 99 [.ref 56] (am_sh, h, hm, g) (none, (am_sh, R, hm, g)) := by
  obtain ⟨d, rfl⟩ : ∃ k, d = k + 1 := ⟨d - 1, by omega⟩
  unfold zT_takeNumber at hp
  show am_Rn 83 Xs am_P _ 99 (0, [(0, .ref 56)], []) _ _
  obtain ⟨h1, h_h1, hp⟩ := am_b_e hp
  obtain ⟨h2, h_h2, hp⟩ := am_b_e hp
  refine am_Rn.run am_h99 6 (F' := (11, [(0, .ref 56)], [])) (S' := (am_sh, h2, hm, g)) (by subst h_h1; subst h_h2; rfl) ?_
  exact ezT_takeNumber_L11 hd R am_N h2 hp
/-- SixHands$Tape.isWord(I)Z [56] -/
def zT_isWord_J53 (k18 : Int32 → Int32 → (Nat → Nat → Int32) → Option (Int32)) (v1 : Int32) (v2 : Int32) (s0 : Int32) (h : (Nat → Nat → Int32)) : Option (Int32) := am_b ((v1 * 6) + v2) fun x5 => am_ix 126 x5 (if s0 = (Int32.ofNat (zChr.getD x5.toNatClampNeg 0)) then (k18 v1 (v2 + 1) h) else (some 0))
set_option maxRecDepth 20000 in
theorem ezT_isWord_J53 {d : Nat} (hd : 0 ≤ d) (R : Int32) (k18 : Int32 → Int32 → (Nat → Nat → Int32) → Option (Int32)) (hk18 : ∀ (v1 : Int32) (v2 : Int32) (h : (Nat → Nat → Int32)), k18 v1 v2 h = some R → am_Rn 83 Xs am_P d 98 (18, [(0, .ref 56), (1, .int v1), (2, .int v2)], []) (am_sh, h, hm, g) (some (.int R), (am_sh, h, hm, g))) (v1 : Int32) (v2 : Int32) (s0 : Int32) (h : (Nat → Nat → Int32)) (hp : zT_isWord_J53 k18 v1 v2 s0 h = some R) : am_Rn 83 Xs am_P d 98 (53, [(0, .ref 56), (1, .int v1), (2, .int v2)], [.int s0]) (am_sh, h, hm, g) (some (.int R), (am_sh, h, hm, g)) := by
  unfold zT_isWord_J53 at hp
  obtain ⟨x5, h_x5, hp⟩ := am_b_e hp
  refine am_Rn.run am_h98 8 (F' := (63, [(3, .int s0), (0, .ref 56), (1, .int v1), (2, .int v2)], [.int x5, .retAddr 0, .int s0])) (S' := (am_sh, h, hm, g)) (by subst h_x5; rfl) ?_
  obtain ⟨hn6, hp⟩ := am_ix_e hp
  refine am_Rn.stepG am_h98 (c := x5 < 0 ∨ 126 ≤ x5.toNatClampNeg) (F' := (66, [(3, .int s0), (0, .ref 56), (1, .int v1), (2, .int v2)], [.int (Int32.ofNat (zChr.getD x5.toNatClampNeg 0)), .int s0])) (S' := (am_sh, h, hm, g)) rfl hn6 ?_
  refine am_Rn.ite am_h98 (c := s0 = (Int32.ofNat (zChr.getD x5.toNatClampNeg 0))) (t := 71) (f := 69) (lv := [(3, .int s0), (0, .ref 56), (1, .int v1), (2, .int v2)]) (st := []) (S' := (am_sh, h, hm, g)) rfl hp (fun hc7 hp => ?_) (fun hc7 hp => ?_)
  · refine am_Rn.run am_h98 2 (F' := (18, [(2, .int (v2 + 1)), (3, .int s0), (0, .ref 56), (1, .int v1)], [])) (S' := (am_sh, h, hm, g)) rfl ?_
    refine am_Rn.sub [2, 3, 0] rfl rfl ?_
    exact hk18 v1 (v2 + 1) h hp
  · refine am_Rn.run am_h98 1 (F' := (70, [(3, .int s0), (0, .ref 56), (1, .int v1), (2, .int v2)], [.int 0])) (S' := (am_sh, h, hm, g)) rfl ?_
    cases hp
    exact am_Rn.ret am_h98 rfl
def zT_isWord_L18 : Nat → Int32 → Int32 → (Nat → Nat → Int32) → Option (Int32)
  | 0, _, _, _ => none
  | n + 1, v1, v2, h => if v2 < 6 then (if ((h 56 4) + v2) < (h 56 2) then (am_ix 300 ((h 56 4) + v2) (zT_isWord_J53 (fun v1 v2 h => zT_isWord_L18 n v1 v2 h) v1 v2 (h 57 (((h 56 4) + v2).toNatClampNeg)) h)) else (zT_isWord_J53 (fun v1 v2 h => zT_isWord_L18 n v1 v2 h) v1 v2 32 h)) else (some 1)
set_option maxRecDepth 20000 in
theorem ezT_isWord_L18 {d : Nat} (hd : 0 ≤ d) (R : Int32) : ∀ (n : Nat) (v1 : Int32) (v2 : Int32) (h : (Nat → Nat → Int32)), zT_isWord_L18 n v1 v2 h = some R → am_Rn 83 Xs am_P d 98 (18, [(0, .ref 56), (1, .int v1), (2, .int v2)], []) (am_sh, h, hm, g) (some (.int R), (am_sh, h, hm, g))
  | 0, _, _, _, hp => by cases hp
  | n + 1, v1, v2, h, hp => by
    unfold zT_isWord_L18 at hp
    refine am_Rn.run am_h98 2 (F' := (21, [(0, .ref 56), (1, .int v1), (2, .int v2)], [.int 6, .int v2])) (S' := (am_sh, h, hm, g)) rfl ?_
    refine am_Rn.ite am_h98 (c := v2 < 6) (t := 24) (f := 77) (lv := [(0, .ref 56), (1, .int v1), (2, .int v2)]) (st := []) (S' := (am_sh, h, hm, g)) rfl hp (fun hc2 hp => ?_) (fun hc2 hp => ?_)
    · refine am_Rn.run am_h98 6 (F' := (34, [(0, .ref 56), (1, .int v1), (2, .int v2)], [.int (h 56 2), .int ((h 56 4) + v2)])) (S' := (am_sh, h, hm, g)) rfl ?_
      refine am_Rn.ite am_h98 (c := ((h 56 4) + v2) < (h 56 2)) (t := 37) (f := 51) (lv := [(0, .ref 56), (1, .int v1), (2, .int v2)]) (st := []) (S' := (am_sh, h, hm, g)) rfl hp (fun hc3 hp => ?_) (fun hc3 hp => ?_)
      · refine am_Rn.run am_h98 6 (F' := (47, [(0, .ref 56), (1, .int v1), (2, .int v2)], [.int ((h 56 4) + v2), .ref 57])) (S' := (am_sh, h, hm, g)) rfl ?_
        obtain ⟨hn4, hp⟩ := am_ix_e hp
        refine am_Rn.stepG am_h98 (c := ((h 56 4) + v2) < 0 ∨ 300 ≤ ((h 56 4) + v2).toNatClampNeg) (F' := (48, [(0, .ref 56), (1, .int v1), (2, .int v2)], [.int (h 57 (((h 56 4) + v2).toNatClampNeg))])) (S' := (am_sh, h, hm, g)) rfl hn4 ?_
        refine am_Rn.run am_h98 1 (F' := (53, [(0, .ref 56), (1, .int v1), (2, .int v2)], [.int (h 57 (((h 56 4) + v2).toNatClampNeg))])) (S' := (am_sh, h, hm, g)) rfl ?_
        exact ezT_isWord_J53 hd R (fun v1 v2 h => zT_isWord_L18 n v1 v2 h) (fun v1 v2 h hp => ezT_isWord_L18 hd R n v1 v2 h hp) v1 v2 (h 57 (((h 56 4) + v2).toNatClampNeg)) h hp
      · refine am_Rn.run am_h98 1 (F' := (53, [(0, .ref 56), (1, .int v1), (2, .int v2)], [.int 32])) (S' := (am_sh, h, hm, g)) rfl ?_
        exact ezT_isWord_J53 hd R (fun v1 v2 h => zT_isWord_L18 n v1 v2 h) (fun v1 v2 h hp => ezT_isWord_L18 hd R n v1 v2 h hp) v1 v2 32 h hp
    · refine am_Rn.run am_h98 1 (F' := (78, [(0, .ref 56), (1, .int v1), (2, .int v2)], [.int 1])) (S' := (am_sh, h, hm, g)) rfl ?_
      cases hp
      exact am_Rn.ret am_h98 rfl
def zT_isWord (v1 : Int32) (h : (Nat → Nat → Int32)) : Option (Int32) := if 6 < ((h 56 2) - (h 56 4)) then (some 0) else (zT_isWord_L18 am_N v1 0 h)
set_option maxRecDepth 20000 in
theorem ezT_isWord {d : Nat} (hd : 0 ≤ d) (v1 : Int32) (h : (Nat → Nat → Int32)) (R : Int32) (hp : zT_isWord v1 h = some R) : am_Ev 83 Xs am_P d 98 [.ref 56, .int v1] (am_sh, h, hm, g) (some (.int R), (am_sh, h, hm, g)) := by
  unfold zT_isWord at hp
  show am_Rn 83 Xs am_P _ 98 (0, [(0, .ref 56), (1, .int v1)], []) _ _
  refine am_Rn.run am_h98 6 (F' := (11, [(0, .ref 56), (1, .int v1)], [.int 6, .int ((h 56 2) - (h 56 4))])) (S' := (am_sh, h, hm, g)) rfl ?_
  refine am_Rn.ite am_h98 (c := 6 < ((h 56 2) - (h 56 4))) (t := 14) (f := 16) (lv := [(0, .ref 56), (1, .int v1)]) (st := []) (S' := (am_sh, h, hm, g)) rfl hp (fun hc1 hp => ?_) (fun hc1 hp => ?_)
  · refine am_Rn.run am_h98 1 (F' := (15, [(0, .ref 56), (1, .int v1)], [.int 0])) (S' := (am_sh, h, hm, g)) rfl ?_
    cases hp
    exact am_Rn.ret am_h98 rfl
  · refine am_Rn.run am_h98 2 (F' := (18, [(2, .int 0), (0, .ref 56), (1, .int v1)], [])) (S' := (am_sh, h, hm, g)) rfl ?_
    refine am_Rn.sub [1, 2, 0] rfl rfl ?_
    exact ezT_isWord_L18 hd R am_N v1 0 h hp
/-- SixHands$Tape.takeWord()V [56] -/
def zT_takeWord_L47 : Nat → Int32 → (Nat → Nat → Int32) → Option ((Nat → Nat → Int32))
  | 0, _, _ => none
  | n + 1, v1, h => if v1 < 21 then (if (h 56 3) = 37 then ((zT_isWord v1 h).bind fun r8 => if r8 = 0 then (zT_takeWord_L47 n (v1 + 1) h) else (am_b (va_up h 56 (upd (h 56) 3 v1)) fun h10 => zT_takeWord_L47 n (v1 + 1) h10)) else (some h)) else (some h)
set_option maxRecDepth 20000 in
theorem ezT_takeWord_L47 {d : Nat} (hd : 1 ≤ d) (R : (Nat → Nat → Int32)) : ∀ (n : Nat) (v1 : Int32) (h : (Nat → Nat → Int32)), zT_takeWord_L47 n v1 h = some R → am_Rn 83 Xs am_P d 97 (47, [(0, .ref 56), (1, .int v1)], []) (am_sh, h, hm, g) (none, (am_sh, R, hm, g))
  | 0, _, _, hp => by cases hp
  | n + 1, v1, h, hp => by
    obtain ⟨d, rfl⟩ : ∃ k, d = k + 1 := ⟨d - 1, by omega⟩
    unfold zT_takeWord_L47 at hp
    refine am_Rn.run am_h97 2 (F' := (50, [(0, .ref 56), (1, .int v1)], [.int 21, .int v1])) (S' := (am_sh, h, hm, g)) rfl ?_
    refine am_Rn.ite am_h97 (c := v1 < 21) (t := 53) (f := 81) (lv := [(0, .ref 56), (1, .int v1)]) (st := []) (S' := (am_sh, h, hm, g)) rfl hp (fun hc6 hp => ?_) (fun hc6 hp => ?_)
    · refine am_Rn.run am_h97 3 (F' := (59, [(0, .ref 56), (1, .int v1)], [.int 37, .int (h 56 3)])) (S' := (am_sh, h, hm, g)) rfl ?_
      refine am_Rn.ite am_h97 (c := (h 56 3) = 37) (t := 62) (f := 81) (lv := [(0, .ref 56), (1, .int v1)]) (st := []) (S' := (am_sh, h, hm, g)) rfl hp (fun hc7 hp => ?_) (fun hc7 hp => ?_)
      · refine am_Rn.run am_h97 2 (F' := (64, [(0, .ref 56), (1, .int v1)], [.int v1, .ref 56])) (S' := (am_sh, h, hm, g)) rfl ?_
        obtain ⟨r8, h_r8, hp⟩ := am_bind hp
        refine am_Rn.call am_h97 (mj := 98) (As := [.ref 56, .int v1]) (F' := (67, [(0, .ref 56), (1, .int v1)], [])) (M' := am_m98) (r := some (.int r8)) (S1 := (am_sh, h, hm, g)) rfl am_h98 rfl (ezT_isWord (by omega) v1 h _ h_r8) ?_
        refine am_Rn.ite am_h97 (c := r8 = 0) (t := 75) (f := 70) (lv := [(0, .ref 56), (1, .int v1)]) (st := []) (S' := (am_sh, h, hm, g)) rfl hp (fun hc9 hp => ?_) (fun hc9 hp => ?_)
        · refine am_Rn.run am_h97 2 (F' := (47, [(1, .int (v1 + 1)), (0, .ref 56)], [])) (S' := (am_sh, h, hm, g)) rfl ?_
          refine am_Rn.sub [1, 0] rfl rfl ?_
          exact ezT_takeWord_L47 hd R n (v1 + 1) h hp
        · obtain ⟨h10, h_h10, hp⟩ := am_b_e hp
          refine am_Rn.run am_h97 5 (F' := (47, [(1, .int (v1 + 1)), (0, .ref 56)], [])) (S' := (am_sh, h10, hm, g)) (by subst h_h10; rfl) ?_
          refine am_Rn.sub [1, 0] rfl rfl ?_
          exact ezT_takeWord_L47 hd R n (v1 + 1) h10 hp
      · cases hp
        exact am_Rn.ret am_h97 rfl
    · cases hp
      exact am_Rn.ret am_h97 rfl
def zT_takeWord_L0 : Nat → (Nat → Nat → Int32) → Option ((Nat → Nat → Int32))
  | 0, _ => none
  | n + 1, h => if (h 56 2) < (h 56 1) then (am_ix 300 (h 56 2) (am_b (zT_isLetter (h 57 ((h 56 2).toNatClampNeg))) fun r3 => if r3 = 0 then (am_b (va_up h 56 (upd (h 56) 3 37)) fun h5 => zT_takeWord_L47 am_N 0 h5) else (am_b (va_up h 56 (upd (h 56) 2 ((h 56 2) + 1))) fun h11 => zT_takeWord_L0 n h11))) else (am_b (va_up h 56 (upd (h 56) 3 37)) fun h12 => zT_takeWord_L47 am_N 0 h12)
set_option maxRecDepth 20000 in
theorem ezT_takeWord_L0 {d : Nat} (hd : 1 ≤ d) (R : (Nat → Nat → Int32)) : ∀ (n : Nat) (h : (Nat → Nat → Int32)), zT_takeWord_L0 n h = some R → am_Rn 83 Xs am_P d 97 (0, [(0, .ref 56)], []) (am_sh, h, hm, g) (none, (am_sh, R, hm, g))
  | 0, _, hp => by cases hp
  | n + 1, h, hp => by
    obtain ⟨d, rfl⟩ : ∃ k, d = k + 1 := ⟨d - 1, by omega⟩
    unfold zT_takeWord_L0 at hp
    refine am_Rn.run am_h97 4 (F' := (8, [(0, .ref 56)], [.int (h 56 1), .int (h 56 2)])) (S' := (am_sh, h, hm, g)) rfl ?_
    refine am_Rn.ite am_h97 (c := (h 56 2) < (h 56 1)) (t := 11) (f := 39) (lv := [(0, .ref 56)]) (st := []) (S' := (am_sh, h, hm, g)) rfl hp (fun hc1 hp => ?_) (fun hc1 hp => ?_)
    · refine am_Rn.run am_h97 4 (F' := (19, [(0, .ref 56)], [.int (h 56 2), .ref 57])) (S' := (am_sh, h, hm, g)) rfl ?_
      obtain ⟨hn2, hp⟩ := am_ix_e hp
      refine am_Rn.stepG am_h97 (c := (h 56 2) < 0 ∨ 300 ≤ (h 56 2).toNatClampNeg) (F' := (20, [(0, .ref 56)], [.int (h 57 ((h 56 2).toNatClampNeg))])) (S' := (am_sh, h, hm, g)) rfl hn2 ?_
      obtain ⟨r3, h_r3, hp⟩ := am_b_e hp
      refine am_Rn.call am_h97 (mj := 95) (As := [.int (h 57 ((h 56 2).toNatClampNeg))]) (F' := (23, [(0, .ref 56)], [])) (M' := am_m95) (r := some (.int r3)) (S1 := (am_sh, h, hm, g)) rfl am_h95 rfl (by subst h_r3; exact (ezT_isLetter (by omega) (h 57 ((h 56 2).toNatClampNeg)))) ?_
      refine am_Rn.ite am_h97 (c := r3 = 0) (t := 39) (f := 26) (lv := [(0, .ref 56)]) (st := []) (S' := (am_sh, h, hm, g)) rfl hp (fun hc4 hp => ?_) (fun hc4 hp => ?_)
      · obtain ⟨h5, h_h5, hp⟩ := am_b_e hp
        refine am_Rn.run am_h97 5 (F' := (47, [(1, .int 0), (0, .ref 56)], [])) (S' := (am_sh, h5, hm, g)) (by subst h_h5; rfl) ?_
        refine am_Rn.sub [1, 0] rfl rfl ?_
        exact ezT_takeWord_L47 hd R am_N 0 h5 hp
      · obtain ⟨h11, h_h11, hp⟩ := am_b_e hp
        refine am_Rn.run am_h97 7 (F' := (0, [(0, .ref 56)], [])) (S' := (am_sh, h11, hm, g)) (by subst h_h11; rfl) ?_
        exact ezT_takeWord_L0 hd R n h11 hp
    · obtain ⟨h12, h_h12, hp⟩ := am_b_e hp
      refine am_Rn.run am_h97 5 (F' := (47, [(1, .int 0), (0, .ref 56)], [])) (S' := (am_sh, h12, hm, g)) (by subst h_h12; rfl) ?_
      refine am_Rn.sub [1, 0] rfl rfl ?_
      exact ezT_takeWord_L47 hd R am_N 0 h12 hp
def zT_takeWord (h : (Nat → Nat → Int32)) : Option ((Nat → Nat → Int32)) := zT_takeWord_L0 am_N h
set_option maxRecDepth 20000 in
theorem ezT_takeWord {d : Nat} (hd : 1 ≤ d) (h : (Nat → Nat → Int32)) (R : (Nat → Nat → Int32)) (hp : zT_takeWord h = some R) : am_Ev 83 Xs am_P d 97 [.ref 56] (am_sh, h, hm, g) (none, (am_sh, R, hm, g)) := by
  obtain ⟨d, rfl⟩ : ∃ k, d = k + 1 := ⟨d - 1, by omega⟩
  unfold zT_takeWord at hp
  show am_Rn 83 Xs am_P _ 97 (0, [(0, .ref 56)], []) _ _
  exact ezT_takeWord_L0 hd R am_N h hp
/-- SixHands$Tape.advance()V [56] -/
def zT_advance_J39 (k0 : (Nat → Nat → Int32) → Option ((Nat → Nat → Int32))) (h : (Nat → Nat → Int32)) : Option ((Nat → Nat → Int32)) := am_b (va_up h 56 (upd (h 56) 2 ((h 56 2) + 1))) fun h4 => k0 h4
set_option maxRecDepth 20000 in
theorem ezT_advance_J39 {d : Nat} (hd : 2 ≤ d) (R : (Nat → Nat → Int32)) (k0 : (Nat → Nat → Int32) → Option ((Nat → Nat → Int32))) (hk0 : ∀ (h : (Nat → Nat → Int32)), k0 h = some R → am_Rn 83 Xs am_P d 94 (0, [(0, .ref 56)], []) (am_sh, h, hm, g) (none, (am_sh, R, hm, g))) (h : (Nat → Nat → Int32)) (hp : zT_advance_J39 k0 h = some R) : am_Rn 83 Xs am_P d 94 (39, [(0, .ref 56)], []) (am_sh, h, hm, g) (none, (am_sh, R, hm, g)) := by
  obtain ⟨d, rfl⟩ : ∃ k, d = k + 1 := ⟨d - 1, by omega⟩
  unfold zT_advance_J39 at hp
  obtain ⟨h4, h_h4, hp⟩ := am_b_e hp
  refine am_Rn.run am_h94 7 (F' := (0, [(0, .ref 56)], [])) (S' := (am_sh, h4, hm, g)) (by subst h_h4; rfl) ?_
  exact hk0 h4 hp
def zT_advance_J52 (h : (Nat → Nat → Int32)) : Option ((Nat → Nat → Int32)) := am_b (va_up h 56 (upd (h 56) 4 (h 56 2))) fun h7 => if (h7 56 2) < (h7 56 1) then (am_ix 300 (h7 56 2) (am_b (zT_isLetter (h7 57 ((h7 56 2).toNatClampNeg))) fun r10 => if r10 = 0 then (am_ix 300 (h7 56 2) (am_b (zT_isDigit (h7 57 ((h7 56 2).toNatClampNeg))) fun r13 => if r13 = 0 then ((zT_takeSign h7).bind fun r15 => some r15) else ((zT_takeNumber h7).bind fun r16 => some r16))) else ((zT_takeWord h7).bind fun r17 => some r17))) else (am_b (va_up h7 56 (upd (h7 56) 3 36)) fun h18 => some h18)
set_option maxRecDepth 20000 in
theorem ezT_advance_J52 {d : Nat} (hd : 2 ≤ d) (R : (Nat → Nat → Int32)) (h : (Nat → Nat → Int32)) (hp : zT_advance_J52 h = some R) : am_Rn 83 Xs am_P d 94 (52, [(0, .ref 56)], []) (am_sh, h, hm, g) (none, (am_sh, R, hm, g)) := by
  obtain ⟨d, rfl⟩ : ∃ k, d = k + 1 := ⟨d - 1, by omega⟩
  unfold zT_advance_J52 at hp
  obtain ⟨h7, h_h7, hp⟩ := am_b_e hp
  refine am_Rn.run am_h94 8 (F' := (68, [(0, .ref 56)], [.int (h7 56 1), .int (h7 56 2)])) (S' := (am_sh, h7, hm, g)) (by subst h_h7; rfl) ?_
  refine am_Rn.ite am_h94 (c := (h7 56 2) < (h7 56 1)) (t := 80) (f := 71) (lv := [(0, .ref 56)]) (st := []) (S' := (am_sh, h7, hm, g)) rfl hp (fun hc8 hp => ?_) (fun hc8 hp => ?_)
  · refine am_Rn.run am_h94 4 (F' := (88, [(0, .ref 56)], [.int (h7 56 2), .ref 57])) (S' := (am_sh, h7, hm, g)) rfl ?_
    obtain ⟨hn9, hp⟩ := am_ix_e hp
    refine am_Rn.stepG am_h94 (c := (h7 56 2) < 0 ∨ 300 ≤ (h7 56 2).toNatClampNeg) (F' := (89, [(0, .ref 56)], [.int (h7 57 ((h7 56 2).toNatClampNeg))])) (S' := (am_sh, h7, hm, g)) rfl hn9 ?_
    obtain ⟨r10, h_r10, hp⟩ := am_b_e hp
    refine am_Rn.call am_h94 (mj := 95) (As := [.int (h7 57 ((h7 56 2).toNatClampNeg))]) (F' := (92, [(0, .ref 56)], [])) (M' := am_m95) (r := some (.int r10)) (S1 := (am_sh, h7, hm, g)) rfl am_h95 rfl (by subst h_r10; exact (ezT_isLetter (by omega) (h7 57 ((h7 56 2).toNatClampNeg)))) ?_
    refine am_Rn.ite am_h94 (c := r10 = 0) (t := 102) (f := 95) (lv := [(0, .ref 56)]) (st := []) (S' := (am_sh, h7, hm, g)) rfl hp (fun hc11 hp => ?_) (fun hc11 hp => ?_)
    · refine am_Rn.run am_h94 4 (F' := (110, [(0, .ref 56)], [.int (h7 56 2), .ref 57])) (S' := (am_sh, h7, hm, g)) rfl ?_
      obtain ⟨hn12, hp⟩ := am_ix_e hp
      refine am_Rn.stepG am_h94 (c := (h7 56 2) < 0 ∨ 300 ≤ (h7 56 2).toNatClampNeg) (F' := (111, [(0, .ref 56)], [.int (h7 57 ((h7 56 2).toNatClampNeg))])) (S' := (am_sh, h7, hm, g)) rfl hn12 ?_
      obtain ⟨r13, h_r13, hp⟩ := am_b_e hp
      refine am_Rn.call am_h94 (mj := 96) (As := [.int (h7 57 ((h7 56 2).toNatClampNeg))]) (F' := (114, [(0, .ref 56)], [])) (M' := am_m96) (r := some (.int r13)) (S1 := (am_sh, h7, hm, g)) rfl am_h96 rfl (by subst h_r13; exact (ezT_isDigit (by omega) (h7 57 ((h7 56 2).toNatClampNeg)))) ?_
      refine am_Rn.ite am_h94 (c := r13 = 0) (t := 124) (f := 117) (lv := [(0, .ref 56)]) (st := []) (S' := (am_sh, h7, hm, g)) rfl hp (fun hc14 hp => ?_) (fun hc14 hp => ?_)
      · refine am_Rn.run am_h94 1 (F' := (125, [(0, .ref 56)], [.ref 56])) (S' := (am_sh, h7, hm, g)) rfl ?_
        obtain ⟨r15, h_r15, hp⟩ := am_bind hp
        refine am_Rn.call am_h94 (mj := 100) (As := [.ref 56]) (F' := (128, [(0, .ref 56)], [])) (M' := am_m100) (r := none) (S1 := (am_sh, r15, hm, g)) rfl am_h100 rfl (ezT_takeSign (by omega) h7 _ h_r15) ?_
        cases hp
        exact am_Rn.ret am_h94 rfl
      · refine am_Rn.run am_h94 1 (F' := (118, [(0, .ref 56)], [.ref 56])) (S' := (am_sh, h7, hm, g)) rfl ?_
        obtain ⟨r16, h_r16, hp⟩ := am_bind hp
        refine am_Rn.call am_h94 (mj := 99) (As := [.ref 56]) (F' := (121, [(0, .ref 56)], [])) (M' := am_m99) (r := none) (S1 := (am_sh, r16, hm, g)) rfl am_h99 rfl (ezT_takeNumber (by omega) h7 _ h_r16) ?_
        refine am_Rn.run am_h94 1 (F' := (128, [(0, .ref 56)], [])) (S' := (am_sh, r16, hm, g)) rfl ?_
        cases hp
        exact am_Rn.ret am_h94 rfl
    · refine am_Rn.run am_h94 1 (F' := (96, [(0, .ref 56)], [.ref 56])) (S' := (am_sh, h7, hm, g)) rfl ?_
      obtain ⟨r17, h_r17, hp⟩ := am_bind hp
      refine am_Rn.call am_h94 (mj := 97) (As := [.ref 56]) (F' := (99, [(0, .ref 56)], [])) (M' := am_m97) (r := none) (S1 := (am_sh, r17, hm, g)) rfl am_h97 rfl (ezT_takeWord (by omega) h7 _ h_r17) ?_
      refine am_Rn.run am_h94 1 (F' := (128, [(0, .ref 56)], [])) (S' := (am_sh, r17, hm, g)) rfl ?_
      cases hp
      exact am_Rn.ret am_h94 rfl
  · obtain ⟨h18, h_h18, hp⟩ := am_b_e hp
    refine am_Rn.run am_h94 4 (F' := (128, [(0, .ref 56)], [])) (S' := (am_sh, h18, hm, g)) (by subst h_h18; rfl) ?_
    cases hp
    exact am_Rn.ret am_h94 rfl
def zT_advance_L0 : Nat → (Nat → Nat → Int32) → Option ((Nat → Nat → Int32))
  | 0, _ => none
  | n + 1, h => if (h 56 2) < (h 56 1) then (am_ix 300 (h 56 2) (if (h 57 ((h 56 2).toNatClampNeg)) = 32 then (zT_advance_J39 (fun h => zT_advance_L0 n h) h) else (am_ix 300 (h 56 2) (if (h 57 ((h 56 2).toNatClampNeg)) = 10 then (zT_advance_J39 (fun h => zT_advance_L0 n h) h) else (zT_advance_J52 h))))) else (zT_advance_J52 h)
set_option maxRecDepth 20000 in
theorem ezT_advance_L0 {d : Nat} (hd : 2 ≤ d) (R : (Nat → Nat → Int32)) : ∀ (n : Nat) (h : (Nat → Nat → Int32)), zT_advance_L0 n h = some R → am_Rn 83 Xs am_P d 94 (0, [(0, .ref 56)], []) (am_sh, h, hm, g) (none, (am_sh, R, hm, g))
  | 0, _, hp => by cases hp
  | n + 1, h, hp => by
    obtain ⟨d, rfl⟩ : ∃ k, d = k + 1 := ⟨d - 1, by omega⟩
    unfold zT_advance_L0 at hp
    refine am_Rn.run am_h94 4 (F' := (8, [(0, .ref 56)], [.int (h 56 1), .int (h 56 2)])) (S' := (am_sh, h, hm, g)) rfl ?_
    refine am_Rn.ite am_h94 (c := (h 56 2) < (h 56 1)) (t := 11) (f := 52) (lv := [(0, .ref 56)]) (st := []) (S' := (am_sh, h, hm, g)) rfl hp (fun hc1 hp => ?_) (fun hc1 hp => ?_)
    · refine am_Rn.run am_h94 4 (F' := (19, [(0, .ref 56)], [.int (h 56 2), .ref 57])) (S' := (am_sh, h, hm, g)) rfl ?_
      obtain ⟨hn2, hp⟩ := am_ix_e hp
      refine am_Rn.stepG am_h94 (c := (h 56 2) < 0 ∨ 300 ≤ (h 56 2).toNatClampNeg) (F' := (20, [(0, .ref 56)], [.int (h 57 ((h 56 2).toNatClampNeg))])) (S' := (am_sh, h, hm, g)) rfl hn2 ?_
      refine am_Rn.run am_h94 1 (F' := (22, [(0, .ref 56)], [.int 32, .int (h 57 ((h 56 2).toNatClampNeg))])) (S' := (am_sh, h, hm, g)) rfl ?_
      refine am_Rn.ite am_h94 (c := (h 57 ((h 56 2).toNatClampNeg)) = 32) (t := 39) (f := 25) (lv := [(0, .ref 56)]) (st := []) (S' := (am_sh, h, hm, g)) rfl hp (fun hc3 hp => ?_) (fun hc3 hp => ?_)
      · exact ezT_advance_J39 hd R (fun h => zT_advance_L0 n h) (fun h hp => ezT_advance_L0 hd R n h hp) h hp
      · refine am_Rn.run am_h94 4 (F' := (33, [(0, .ref 56)], [.int (h 56 2), .ref 57])) (S' := (am_sh, h, hm, g)) rfl ?_
        obtain ⟨hn5, hp⟩ := am_ix_e hp
        refine am_Rn.stepG am_h94 (c := (h 56 2) < 0 ∨ 300 ≤ (h 56 2).toNatClampNeg) (F' := (34, [(0, .ref 56)], [.int (h 57 ((h 56 2).toNatClampNeg))])) (S' := (am_sh, h, hm, g)) rfl hn5 ?_
        refine am_Rn.run am_h94 1 (F' := (36, [(0, .ref 56)], [.int 10, .int (h 57 ((h 56 2).toNatClampNeg))])) (S' := (am_sh, h, hm, g)) rfl ?_
        refine am_Rn.ite am_h94 (c := (h 57 ((h 56 2).toNatClampNeg)) = 10) (t := 39) (f := 52) (lv := [(0, .ref 56)]) (st := []) (S' := (am_sh, h, hm, g)) rfl hp (fun hc6 hp => ?_) (fun hc6 hp => ?_)
        · exact ezT_advance_J39 hd R (fun h => zT_advance_L0 n h) (fun h hp => ezT_advance_L0 hd R n h hp) h hp
        · exact ezT_advance_J52 hd R h hp
    · exact ezT_advance_J52 hd R h hp
def zT_advance (h : (Nat → Nat → Int32)) : Option ((Nat → Nat → Int32)) := zT_advance_L0 am_N h
set_option maxRecDepth 20000 in
theorem ezT_advance {d : Nat} (hd : 2 ≤ d) (h : (Nat → Nat → Int32)) (R : (Nat → Nat → Int32)) (hp : zT_advance h = some R) : am_Ev 83 Xs am_P d 94 [.ref 56] (am_sh, h, hm, g) (none, (am_sh, R, hm, g)) := by
  obtain ⟨d, rfl⟩ : ∃ k, d = k + 1 := ⟨d - 1, by omega⟩
  unfold zT_advance at hp
  show am_Rn 83 Xs am_P _ 94 (0, [(0, .ref 56)], []) _ _
  exact ezT_advance_L0 hd R am_N h hp
/-- SixHands$Tape.rewind()V [56] -/
def zT_rewind (h : (Nat → Nat → Int32)) : Option ((Nat → Nat → Int32)) := am_b (va_up h 56 (upd (h 56) 2 0)) fun h1 => (zT_advance h1).bind fun r2 => some r2
set_option maxRecDepth 20000 in
theorem ezT_rewind {d : Nat} (hd : 3 ≤ d) (h : (Nat → Nat → Int32)) (R : (Nat → Nat → Int32)) (hp : zT_rewind h = some R) : am_Ev 83 Xs am_P d 93 [.ref 56] (am_sh, h, hm, g) (none, (am_sh, R, hm, g)) := by
  obtain ⟨d, rfl⟩ : ∃ k, d = k + 1 := ⟨d - 1, by omega⟩
  unfold zT_rewind at hp
  show am_Rn 83 Xs am_P _ 93 (0, [(0, .ref 56)], []) _ _
  obtain ⟨h1, h_h1, hp⟩ := am_b_e hp
  refine am_Rn.run am_h93 4 (F' := (6, [(0, .ref 56)], [.ref 56])) (S' := (am_sh, h1, hm, g)) (by subst h_h1; rfl) ?_
  obtain ⟨r2, h_r2, hp⟩ := am_bind hp
  refine am_Rn.call am_h93 (mj := 94) (As := [.ref 56]) (F' := (9, [(0, .ref 56)], [])) (M' := am_m94) (r := none) (S1 := (am_sh, r2, hm, g)) rfl am_h94 rfl (ezT_advance (by omega) h1 _ h_r2) ?_
  cases hp
  exact am_Rn.ret am_h93 rfl
/-- SixHands$Reader.isLaw(I)Z [] -/
def zR_isLaw (v0 : Int32) : Int32 := if v0 < 3 then (0) else (if 5 < v0 then (0) else (1))
set_option maxRecDepth 20000 in
theorem ezR_isLaw {d : Nat} (hd : 0 ≤ d) (v0 : Int32) : am_Ev 83 Xs am_P d 34 [.int v0] S (some (.int ((zR_isLaw v0))), S) := by
  obtain ⟨R, hp⟩ : ∃ R, zR_isLaw v0 = R := ⟨_, rfl⟩
  rw [hp]
  unfold zR_isLaw at hp
  show am_Rn 83 Xs am_P _ 34 (0, [(0, .int v0)], []) _ _
  refine am_Rn.run am_h34 2 (F' := (2, [(0, .int v0)], [.int 3, .int v0])) (S' := S) rfl ?_
  refine am_Rn.ite am_h34 (c := v0 < 3) (t := 14) (f := 5) (lv := [(0, .int v0)]) (st := []) (S' := S) rfl hp (fun hc1 hp => ?_) (fun hc1 hp => ?_)
  · refine am_Rn.run am_h34 1 (F' := (15, [(0, .int v0)], [.int 0])) (S' := S) rfl ?_
    subst hp
    exact am_Rn.ret am_h34 rfl
  · refine am_Rn.run am_h34 2 (F' := (7, [(0, .int v0)], [.int 5, .int v0])) (S' := S) rfl ?_
    refine am_Rn.ite am_h34 (c := 5 < v0) (t := 14) (f := 10) (lv := [(0, .int v0)]) (st := []) (S' := S) rfl hp (fun hc2 hp => ?_) (fun hc2 hp => ?_)
    · refine am_Rn.run am_h34 1 (F' := (15, [(0, .int v0)], [.int 0])) (S' := S) rfl ?_
      subst hp
      exact am_Rn.ret am_h34 rfl
    · refine am_Rn.run am_h34 2 (F' := (15, [(0, .int v0)], [.int 1])) (S' := S) rfl ?_
      subst hp
      exact am_Rn.ret am_h34 rfl
/-- SixHands$Text.hasLaw(I)Z ['t'] -/
def zX_hasLaw (v0 : Nat) (v1 : Int32) (h : (Nat → Nat → Int32)) : Option (Int32) := am_ix 3 (v1 - 3) (am_ix 3 (v1 - 3) (if (h (v0 + 5) ((v1 - 3).toNatClampNeg)) < (h (v0 + 6) ((v1 - 3).toNatClampNeg)) then (some 1) else (some 0)))
set_option maxRecDepth 20000 in
theorem ezX_hasLaw {d : Nat} (hd : 0 ≤ d) (v0 : Nat) (v1 : Int32) (h : (Nat → Nat → Int32)) (R : Int32) (hk_v0 : zK v0) (hp : zX_hasLaw v0 v1 h = some R) : am_Ev 83 Xs am_P d 104 [.ref v0, .int v1] (am_sh, h, hm, g) (some (.int R), (am_sh, h, hm, g)) := by
  unfold zX_hasLaw at hp
  show am_Rn 83 Xs am_P _ 104 (0, [(0, .ref v0), (1, .int v1)], []) _ _
  refine am_Rn.run am_h104 5 (F' := (7, [(0, .ref v0), (1, .int v1)], [.int (v1 - 3), .ref (v0 + 5)])) (S' := (am_sh, h, hm, g)) (by rcases hk_v0 with rfl | rfl | rfl | rfl | rfl <;> rfl) ?_
  obtain ⟨hn1, hp⟩ := am_ix_e hp
  refine am_Rn.stepG am_h104 (c := (v1 - 3) < 0 ∨ 3 ≤ (v1 - 3).toNatClampNeg) (F' := (8, [(0, .ref v0), (1, .int v1)], [.int (h (v0 + 5) ((v1 - 3).toNatClampNeg))])) (S' := (am_sh, h, hm, g)) (by rcases hk_v0 with rfl | rfl | rfl | rfl | rfl <;> rfl) hn1 ?_
  refine am_Rn.run am_h104 5 (F' := (15, [(0, .ref v0), (1, .int v1)], [.int (v1 - 3), .ref (v0 + 6), .int (h (v0 + 5) ((v1 - 3).toNatClampNeg))])) (S' := (am_sh, h, hm, g)) (by rcases hk_v0 with rfl | rfl | rfl | rfl | rfl <;> rfl) ?_
  obtain ⟨hn2, hp⟩ := am_ix_e hp
  refine am_Rn.stepG am_h104 (c := (v1 - 3) < 0 ∨ 3 ≤ (v1 - 3).toNatClampNeg) (F' := (16, [(0, .ref v0), (1, .int v1)], [.int (h (v0 + 6) ((v1 - 3).toNatClampNeg)), .int (h (v0 + 5) ((v1 - 3).toNatClampNeg))])) (S' := (am_sh, h, hm, g)) (by rcases hk_v0 with rfl | rfl | rfl | rfl | rfl <;> rfl) hn2 ?_
  refine am_Rn.ite am_h104 (c := (h (v0 + 5) ((v1 - 3).toNatClampNeg)) < (h (v0 + 6) ((v1 - 3).toNatClampNeg))) (t := 19) (f := 23) (lv := [(0, .ref v0), (1, .int v1)]) (st := []) (S' := (am_sh, h, hm, g)) (by rcases hk_v0 with rfl | rfl | rfl | rfl | rfl <;> rfl) hp (fun hc3 hp => ?_) (fun hc3 hp => ?_)
  · refine am_Rn.run am_h104 2 (F' := (24, [(0, .ref v0), (1, .int v1)], [.int 1])) (S' := (am_sh, h, hm, g)) (by rcases hk_v0 with rfl | rfl | rfl | rfl | rfl <;> rfl) ?_
    cases hp
    exact am_Rn.ret am_h104 (by rcases hk_v0 with rfl | rfl | rfl | rfl | rfl <;> rfl)
  · refine am_Rn.run am_h104 1 (F' := (24, [(0, .ref v0), (1, .int v1)], [.int 0])) (S' := (am_sh, h, hm, g)) (by rcases hk_v0 with rfl | rfl | rfl | rfl | rfl <;> rfl) ?_
    cases hp
    exact am_Rn.ret am_h104 (by rcases hk_v0 with rfl | rfl | rfl | rfl | rfl <;> rfl)
/-- SixHands$Reader.faultOfVerb(LSixHands$Text;I)I ['t'] -/
def zR_faultOfVerb_J30 (v0 : Nat) (h : (Nat → Nat → Int32)) : Option (Int32) := if (h v0 0) < 50 then (some 0) else (some 6)
set_option maxRecDepth 20000 in
theorem ezR_faultOfVerb_J30 {d : Nat} (hd : 1 ≤ d) (R : Int32) (v0 : Nat) (h : (Nat → Nat → Int32)) (hk_v0 : zK v0) (hp : zR_faultOfVerb_J30 v0 h = some R) : am_Rn 83 Xs am_P d 35 (30, [(0, .ref v0)], []) (am_sh, h, hm, g) (some (.int R), (am_sh, h, hm, g)) := by
  obtain ⟨d, rfl⟩ : ∃ k, d = k + 1 := ⟨d - 1, by omega⟩
  unfold zR_faultOfVerb_J30 at hp
  refine am_Rn.run am_h35 3 (F' := (36, [(0, .ref v0)], [.int 50, .int (h v0 0)])) (S' := (am_sh, h, hm, g)) (by rcases hk_v0 with rfl | rfl | rfl | rfl | rfl <;> rfl) ?_
  refine am_Rn.ite am_h35 (c := (h v0 0) < 50) (t := 44) (f := 39) (lv := [(0, .ref v0)]) (st := []) (S' := (am_sh, h, hm, g)) (by rcases hk_v0 with rfl | rfl | rfl | rfl | rfl <;> rfl) hp (fun hc5 hp => ?_) (fun hc5 hp => ?_)
  · refine am_Rn.run am_h35 1 (F' := (45, [(0, .ref v0)], [.int 0])) (S' := (am_sh, h, hm, g)) (by rcases hk_v0 with rfl | rfl | rfl | rfl | rfl <;> rfl) ?_
    cases hp
    exact am_Rn.ret am_h35 (by rcases hk_v0 with rfl | rfl | rfl | rfl | rfl <;> rfl)
  · refine am_Rn.run am_h35 2 (F' := (45, [(0, .ref v0)], [.int 6])) (S' := (am_sh, h, hm, g)) (by rcases hk_v0 with rfl | rfl | rfl | rfl | rfl <;> rfl) ?_
    cases hp
    exact am_Rn.ret am_h35 (by rcases hk_v0 with rfl | rfl | rfl | rfl | rfl <;> rfl)
def zR_faultOfVerb (v0 : Nat) (v1 : Int32) (h : (Nat → Nat → Int32)) : Option (Int32) := if v1 < 3 then (some 1) else (if 10 < v1 then (some 1) else (am_b (zR_isLaw v1) fun r3 => if r3 = 0 then (zR_faultOfVerb_J30 v0 h) else ((zX_hasLaw v0 v1 h).bind fun r6 => if r6 = 0 then (zR_faultOfVerb_J30 v0 h) else (some 4))))
set_option maxRecDepth 20000 in
theorem ezR_faultOfVerb {d : Nat} (hd : 1 ≤ d) (v0 : Nat) (v1 : Int32) (h : (Nat → Nat → Int32)) (R : Int32) (hk_v0 : zK v0) (hp : zR_faultOfVerb v0 v1 h = some R) : am_Ev 83 Xs am_P d 35 [.ref v0, .int v1] (am_sh, h, hm, g) (some (.int R), (am_sh, h, hm, g)) := by
  obtain ⟨d, rfl⟩ : ∃ k, d = k + 1 := ⟨d - 1, by omega⟩
  unfold zR_faultOfVerb at hp
  show am_Rn 83 Xs am_P _ 35 (0, [(0, .ref v0), (1, .int v1)], []) _ _
  refine am_Rn.run am_h35 2 (F' := (2, [(0, .ref v0), (1, .int v1)], [.int 3, .int v1])) (S' := (am_sh, h, hm, g)) (by rcases hk_v0 with rfl | rfl | rfl | rfl | rfl <;> rfl) ?_
  refine am_Rn.ite am_h35 (c := v1 < 3) (t := 11) (f := 5) (lv := [(0, .ref v0), (1, .int v1)]) (st := []) (S' := (am_sh, h, hm, g)) (by rcases hk_v0 with rfl | rfl | rfl | rfl | rfl <;> rfl) hp (fun hc1 hp => ?_) (fun hc1 hp => ?_)
  · refine am_Rn.run am_h35 1 (F' := (12, [(0, .ref v0), (1, .int v1)], [.int 1])) (S' := (am_sh, h, hm, g)) (by rcases hk_v0 with rfl | rfl | rfl | rfl | rfl <;> rfl) ?_
    cases hp
    exact am_Rn.ret am_h35 (by rcases hk_v0 with rfl | rfl | rfl | rfl | rfl <;> rfl)
  · refine am_Rn.run am_h35 2 (F' := (8, [(0, .ref v0), (1, .int v1)], [.int 10, .int v1])) (S' := (am_sh, h, hm, g)) (by rcases hk_v0 with rfl | rfl | rfl | rfl | rfl <;> rfl) ?_
    refine am_Rn.ite am_h35 (c := 10 < v1) (t := 11) (f := 13) (lv := [(0, .ref v0), (1, .int v1)]) (st := []) (S' := (am_sh, h, hm, g)) (by rcases hk_v0 with rfl | rfl | rfl | rfl | rfl <;> rfl) hp (fun hc2 hp => ?_) (fun hc2 hp => ?_)
    · refine am_Rn.run am_h35 1 (F' := (12, [(0, .ref v0), (1, .int v1)], [.int 1])) (S' := (am_sh, h, hm, g)) (by rcases hk_v0 with rfl | rfl | rfl | rfl | rfl <;> rfl) ?_
      cases hp
      exact am_Rn.ret am_h35 (by rcases hk_v0 with rfl | rfl | rfl | rfl | rfl <;> rfl)
    · refine am_Rn.run am_h35 1 (F' := (14, [(0, .ref v0), (1, .int v1)], [.int v1])) (S' := (am_sh, h, hm, g)) (by rcases hk_v0 with rfl | rfl | rfl | rfl | rfl <;> rfl) ?_
      obtain ⟨r3, h_r3, hp⟩ := am_b_e hp
      refine am_Rn.call am_h35 (mj := 34) (As := [.int v1]) (F' := (17, [(0, .ref v0), (1, .int v1)], [])) (M' := am_m34) (r := some (.int r3)) (S1 := (am_sh, h, hm, g)) (by rcases hk_v0 with rfl | rfl | rfl | rfl | rfl <;> rfl) am_h34 rfl (by subst h_r3; exact (ezR_isLaw (by omega) v1)) ?_
      refine am_Rn.ite am_h35 (c := r3 = 0) (t := 30) (f := 20) (lv := [(0, .ref v0), (1, .int v1)]) (st := []) (S' := (am_sh, h, hm, g)) (by rcases hk_v0 with rfl | rfl | rfl | rfl | rfl <;> rfl) hp (fun hc4 hp => ?_) (fun hc4 hp => ?_)
      · refine am_Rn.sub [0] rfl rfl ?_
        exact ezR_faultOfVerb_J30 hd R v0 h hk_v0 hp
      · refine am_Rn.run am_h35 2 (F' := (22, [(0, .ref v0), (1, .int v1)], [.int v1, .ref v0])) (S' := (am_sh, h, hm, g)) (by rcases hk_v0 with rfl | rfl | rfl | rfl | rfl <;> rfl) ?_
        obtain ⟨r6, h_r6, hp⟩ := am_bind hp
        refine am_Rn.call am_h35 (mj := 104) (As := [.ref v0, .int v1]) (F' := (25, [(0, .ref v0), (1, .int v1)], [])) (M' := am_m104) (r := some (.int r6)) (S1 := (am_sh, h, hm, g)) (by rcases hk_v0 with rfl | rfl | rfl | rfl | rfl <;> rfl) am_h104 rfl (ezX_hasLaw (by omega) v0 v1 h _ hk_v0 h_r6) ?_
        refine am_Rn.ite am_h35 (c := r6 = 0) (t := 30) (f := 28) (lv := [(0, .ref v0), (1, .int v1)]) (st := []) (S' := (am_sh, h, hm, g)) (by rcases hk_v0 with rfl | rfl | rfl | rfl | rfl <;> rfl) hp (fun hc7 hp => ?_) (fun hc7 hp => ?_)
        · refine am_Rn.sub [0] rfl rfl ?_
          exact ezR_faultOfVerb_J30 hd R v0 h hk_v0 hp
        · refine am_Rn.run am_h35 1 (F' := (29, [(0, .ref v0), (1, .int v1)], [.int 4])) (S' := (am_sh, h, hm, g)) (by rcases hk_v0 with rfl | rfl | rfl | rfl | rfl <;> rfl) ?_
          cases hp
          exact am_Rn.ret am_h35 (by rcases hk_v0 with rfl | rfl | rfl | rfl | rfl <;> rfl)
end
