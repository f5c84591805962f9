section
variable {Xs : Nat × (Nat → Int32)} {hx hm : Nat → Nat → Int32} {g : Nat → Nat → Int64} {S : am_S}
/-- SixHandsModel.isIn(III)Z [] -/
def zM_isIn (v0 : Int32) (v1 : Int32) (v2 : Int32) : Int32 := if v0 < v1 then (0) else (if v2 < v0 then (0) else (1))
set_option maxRecDepth 20000 in
theorem ezM_isIn {d : Nat} (hd : 0 ≤ d) (v0 : Int32) (v1 : Int32) (v2 : Int32) : am_Ev 83 Xs am_P d 152 [.int v0, .int v1, .int v2] S (some (.int ((zM_isIn v0 v1 v2))), S) := by
  obtain ⟨R, hp⟩ : ∃ R, zM_isIn v0 v1 v2 = R := ⟨_, rfl⟩
  rw [hp]
  unfold zM_isIn at hp
  show am_Rn 83 Xs am_P _ 152 (0, [(0, .int v0), (1, .int v1), (2, .int v2)], []) _ _
  refine am_Rn.run am_h152 2 (F' := (2, [(0, .int v0), (1, .int v1), (2, .int v2)], [.int v1, .int v0])) (S' := S) rfl ?_
  refine am_Rn.ite am_h152 (c := v0 < v1) (t := 14) (f := 5) (lv := [(0, .int v0), (1, .int v1), (2, .int v2)]) (st := []) (S' := S) rfl hp (fun hc1 hp => ?_) (fun hc1 hp => ?_)
  · refine am_Rn.run am_h152 1 (F' := (15, [(0, .int v0), (1, .int v1), (2, .int v2)], [.int 0])) (S' := S) rfl ?_
    subst hp
    exact am_Rn.ret am_h152 rfl
  · refine am_Rn.run am_h152 2 (F' := (7, [(0, .int v0), (1, .int v1), (2, .int v2)], [.int v2, .int v0])) (S' := S) rfl ?_
    refine am_Rn.ite am_h152 (c := v2 < v0) (t := 14) (f := 10) (lv := [(0, .int v0), (1, .int v1), (2, .int v2)]) (st := []) (S' := S) rfl hp (fun hc2 hp => ?_) (fun hc2 hp => ?_)
    · refine am_Rn.run am_h152 1 (F' := (15, [(0, .int v0), (1, .int v1), (2, .int v2)], [.int 0])) (S' := S) rfl ?_
      subst hp
      exact am_Rn.ret am_h152 rfl
    · refine am_Rn.run am_h152 2 (F' := (15, [(0, .int v0), (1, .int v1), (2, .int v2)], [.int 1])) (S' := S) rfl ?_
      subst hp
      exact am_Rn.ret am_h152 rfl
/-- SixHandsModel.isPlace(I)Z [83] -/
def zM_isPlace (v1 : Int32) (w : zHM) : Int32 := am_b (zM_isIn v1 0 ((w.1 83 2) - 1)) fun r1 => r1 &&& 1
set_option maxRecDepth 20000 in
theorem ezM_isPlace {d : Nat} (hd : 1 ≤ d) (v1 : Int32) (w : zHM) : am_Ev 83 Xs am_P d 153 [.ref 83, .int v1] (am_sh, hx, w.1, w.2) (some (.int ((zM_isPlace v1 w))), (am_sh, hx, w.1, w.2)) := by
  obtain ⟨R, hp⟩ : ∃ R, zM_isPlace v1 w = R := ⟨_, rfl⟩
  rw [hp]
  obtain ⟨d, rfl⟩ : ∃ k, d = k + 1 := ⟨d - 1, by omega⟩
  unfold zM_isPlace at hp
  show am_Rn 83 Xs am_P _ 153 (0, [(0, .ref 83), (1, .int v1)], []) _ _
  refine am_Rn.run am_h153 6 (F' := (8, [(0, .ref 83), (1, .int v1)], [.int ((w.1 83 2) - 1), .int 0, .int v1])) (S' := (am_sh, hx, w.1, w.2)) rfl ?_
  obtain ⟨r1, h_r1, hp⟩ := am_b_e hp
  refine am_Rn.call am_h153 (mj := 152) (As := [.int v1, .int 0, .int ((w.1 83 2) - 1)]) (F' := (11, [(0, .ref 83), (1, .int v1)], [])) (M' := am_m152) (r := some (.int r1)) (S1 := (am_sh, hx, w.1, w.2)) rfl am_h152 rfl (by subst h_r1; exact (ezM_isIn (by omega) v1 0 ((w.1 83 2) - 1))) ?_
  subst hp
  exact am_Rn.ret am_h153 rfl
/-- SixHandsModel.puppeteer(II)I [83] -/
def zM_puppeteer (v1 : Int32) (v2 : Int32) (w : zHM) : Option (Int32 × zHM) := am_b (zM_isPlace v1 w) fun r1 => if r1 = 0 then (some (((-1), w))) else (am_b (zM_isIn v2 0 7) fun r3 => if r3 = 0 then (some (((-1), w))) else (if (w.1 84 0) = 3 then (some (((-1), w))) else (am_ix 350 (10 + (2 * (w.1 84 0))) (am_b ((va_up w.1 84 (upd (w.1 84) ((10 + (2 * (w.1 84 0))).toNatClampNeg) v1), w.2)) fun w7 => am_ix 350 ((10 + (2 * (w7.1 84 0))) + 1) (am_b ((va_up w7.1 84 (upd (w7.1 84) (((10 + (2 * (w7.1 84 0))) + 1).toNatClampNeg) v2), w7.2)) fun w9 => am_b ((va_up w9.1 84 (upd (w9.1 84) 0 ((w9.1 84 0) + 1)), w9.2)) fun w10 => some (((w10.1 84 0) - 1, w10)))))))
set_option maxRecDepth 20000 in
theorem ezM_puppeteer {d : Nat} (hd : 2 ≤ d) (v1 : Int32) (v2 : Int32) (w : zHM) (R : Int32 × zHM) (hp : zM_puppeteer v1 v2 w = some R) : am_Ev 83 Xs am_P d 162 [.ref 83, .int v1, .int v2] (am_sh, hx, w.1, w.2) (some (.int R.1), (am_sh, hx, R.2.1, R.2.2)) := by
  obtain ⟨d, rfl⟩ : ∃ k, d = k + 1 := ⟨d - 1, by omega⟩
  unfold zM_puppeteer at hp
  show am_Rn 83 Xs am_P _ 162 (0, [(0, .ref 83), (1, .int v1), (2, .int v2)], []) _ _
  refine am_Rn.run am_h162 2 (F' := (2, [(0, .ref 83), (1, .int v1), (2, .int v2)], [.int v1, .ref 83])) (S' := (am_sh, hx, w.1, w.2)) rfl ?_
  obtain ⟨r1, h_r1, hp⟩ := am_b_e hp
  refine am_Rn.call am_h162 (mj := 153) (As := [.ref 83, .int v1]) (F' := (5, [(0, .ref 83), (1, .int v1), (2, .int v2)], [])) (M' := am_m153) (r := some (.int r1)) (S1 := (am_sh, hx, w.1, w.2)) rfl am_h153 rfl (by subst h_r1; exact (ezM_isPlace (by omega) v1 w)) ?_
  refine am_Rn.ite am_h162 (c := r1 = 0) (t := 28) (f := 8) (lv := [(0, .ref 83), (1, .int v1), (2, .int v2)]) (st := []) (S' := (am_sh, hx, w.1, w.2)) rfl hp (fun hc2 hp => ?_) (fun hc2 hp => ?_)
  · refine am_Rn.run am_h162 1 (F' := (29, [(0, .ref 83), (1, .int v1), (2, .int v2)], [.int (-1)])) (S' := (am_sh, hx, w.1, w.2)) rfl ?_
    cases hp
    exact am_Rn.ret am_h162 rfl
  · refine am_Rn.run am_h162 3 (F' := (12, [(0, .ref 83), (1, .int v1), (2, .int v2)], [.int 7, .int 0, .int v2])) (S' := (am_sh, hx, w.1, w.2)) rfl ?_
    obtain ⟨r3, h_r3, hp⟩ := am_b_e hp
    refine am_Rn.call am_h162 (mj := 152) (As := [.int v2, .int 0, .int 7]) (F' := (15, [(0, .ref 83), (1, .int v1), (2, .int v2)], [])) (M' := am_m152) (r := some (.int r3)) (S1 := (am_sh, hx, w.1, w.2)) rfl am_h152 rfl (by subst h_r3; exact (ezM_isIn (by omega) v2 0 7)) ?_
    refine am_Rn.ite am_h162 (c := r3 = 0) (t := 28) (f := 18) (lv := [(0, .ref 83), (1, .int v1), (2, .int v2)]) (st := []) (S' := (am_sh, hx, w.1, w.2)) rfl hp (fun hc4 hp => ?_) (fun hc4 hp => ?_)
    · refine am_Rn.run am_h162 1 (F' := (29, [(0, .ref 83), (1, .int v1), (2, .int v2)], [.int (-1)])) (S' := (am_sh, hx, w.1, w.2)) rfl ?_
      cases hp
      exact am_Rn.ret am_h162 rfl
    · refine am_Rn.run am_h162 5 (F' := (25, [(0, .ref 83), (1, .int v1), (2, .int v2)], [.int 3, .int (w.1 84 0)])) (S' := (am_sh, hx, w.1, w.2)) rfl ?_
      refine am_Rn.ite am_h162 (c := (w.1 84 0) = 3) (t := 28) (f := 30) (lv := [(0, .ref 83), (1, .int v1), (2, .int v2)]) (st := []) (S' := (am_sh, hx, w.1, w.2)) rfl hp (fun hc5 hp => ?_) (fun hc5 hp => ?_)
      · refine am_Rn.run am_h162 1 (F' := (29, [(0, .ref 83), (1, .int v1), (2, .int v2)], [.int (-1)])) (S' := (am_sh, hx, w.1, w.2)) rfl ?_
        cases hp
        exact am_Rn.ret am_h162 rfl
      · refine am_Rn.run am_h162 11 (F' := (46, [(0, .ref 83), (1, .int v1), (2, .int v2)], [.int v1, .int (10 + (2 * (w.1 84 0))), .ref 84])) (S' := (am_sh, hx, w.1, w.2)) rfl ?_
        obtain ⟨hn6, hp⟩ := am_ix_e hp
        obtain ⟨w7, h_w7, hp⟩ := am_b_e hp
        refine am_Rn.stepG am_h162 (c := (10 + (2 * (w.1 84 0))) < 0 ∨ 350 ≤ (10 + (2 * (w.1 84 0))).toNatClampNeg) (F' := (47, [(0, .ref 83), (1, .int v1), (2, .int v2)], [])) (S' := (am_sh, hx, w7.1, w7.2)) (by subst h_w7; rfl) hn6 ?_
        refine am_Rn.run am_h162 13 (F' := (65, [(0, .ref 83), (1, .int v1), (2, .int v2)], [.int v2, .int ((10 + (2 * (w7.1 84 0))) + 1), .ref 84])) (S' := (am_sh, hx, w7.1, w7.2)) rfl ?_
        obtain ⟨hn8, hp⟩ := am_ix_e hp
        obtain ⟨w9, h_w9, hp⟩ := am_b_e hp
        refine am_Rn.stepG am_h162 (c := ((10 + (2 * (w7.1 84 0))) + 1) < 0 ∨ 350 ≤ ((10 + (2 * (w7.1 84 0))) + 1).toNatClampNeg) (F' := (66, [(0, .ref 83), (1, .int v1), (2, .int v2)], [])) (S' := (am_sh, hx, w9.1, w9.2)) (by subst h_w9; rfl) hn8 ?_
        obtain ⟨w10, h_w10, hp⟩ := am_b_e hp
        refine am_Rn.run am_h162 14 (F' := (84, [(0, .ref 83), (1, .int v1), (2, .int v2)], [.int ((w10.1 84 0) - 1)])) (S' := (am_sh, hx, w10.1, w10.2)) (by subst h_w10; rfl) ?_
        cases hp
        exact am_Rn.ret am_h162 rfl
/-- SixHandsModel.figure(II)I [83] -/
def zM_figure_L88 : Nat → Int32 → Int32 → zHM → Option (Int32 × zHM)
  | 0, _, _, _ => none
  | n + 1, v3, v4, w => if v4 < 24 then (am_ix 350 ((50 + (6 * v4)) + v3) (am_b ((va_up w.1 84 (upd (w.1 84) (((50 + (6 * v4)) + v3).toNatClampNeg) (-1)), w.2)) fun w17 => am_ix 350 ((200 + (6 * v4)) + v3) (am_b ((va_up w17.1 84 (upd (w17.1 84) (((200 + (6 * v4)) + v3).toNatClampNeg) 0), w17.2)) fun w19 => zM_figure_L88 n v3 (v4 + 1) w19))) else (am_b ((va_up w.1 84 (upd (w.1 84) 1 ((w.1 84 1) + 1)), w.2)) fun w20 => some ((v3, w20)))
set_option maxRecDepth 20000 in
theorem ezM_figure_L88 {d : Nat} (hd : 1 ≤ d) (R : Int32 × zHM) : ∀ (n : Nat) (v3 : Int32) (v4 : Int32) (w : zHM), zM_figure_L88 n v3 v4 w = some R → am_Rn 83 Xs am_P d 163 (88, [(0, .ref 83), (3, .int v3), (4, .int v4)], []) (am_sh, hx, w.1, w.2) (some (.int R.1), (am_sh, hx, R.2.1, R.2.2))
  | 0, _, _, _, hp => by cases hp
  | n + 1, v3, v4, w, hp => by
    obtain ⟨d, rfl⟩ : ∃ k, d = k + 1 := ⟨d - 1, by omega⟩
    unfold zM_figure_L88 at hp
    refine am_Rn.run am_h163 2 (F' := (92, [(0, .ref 83), (3, .int v3), (4, .int v4)], [.int 24, .int v4])) (S' := (am_sh, hx, w.1, w.2)) rfl ?_
    refine am_Rn.ite am_h163 (c := v4 < 24) (t := 95) (f := 134) (lv := [(0, .ref 83), (3, .int v3), (4, .int v4)]) (st := []) (S' := (am_sh, hx, w.1, w.2)) rfl hp (fun hc15 hp => ?_) (fun hc15 hp => ?_)
    · refine am_Rn.run am_h163 10 (F' := (110, [(0, .ref 83), (3, .int v3), (4, .int v4)], [.int (-1), .int ((50 + (6 * v4)) + v3), .ref 84])) (S' := (am_sh, hx, w.1, w.2)) rfl ?_
      obtain ⟨hn16, hp⟩ := am_ix_e hp
      obtain ⟨w17, h_w17, hp⟩ := am_b_e hp
      refine am_Rn.stepG am_h163 (c := ((50 + (6 * v4)) + v3) < 0 ∨ 350 ≤ ((50 + (6 * v4)) + v3).toNatClampNeg) (F' := (111, [(0, .ref 83), (3, .int v3), (4, .int v4)], [])) (S' := (am_sh, hx, w17.1, w17.2)) (by subst h_w17; rfl) hn16 ?_
      refine am_Rn.run am_h163 10 (F' := (127, [(0, .ref 83), (3, .int v3), (4, .int v4)], [.int 0, .int ((200 + (6 * v4)) + v3), .ref 84])) (S' := (am_sh, hx, w17.1, w17.2)) rfl ?_
      obtain ⟨hn18, hp⟩ := am_ix_e hp
      obtain ⟨w19, h_w19, hp⟩ := am_b_e hp
      refine am_Rn.stepG am_h163 (c := ((200 + (6 * v4)) + v3) < 0 ∨ 350 ≤ ((200 + (6 * v4)) + v3).toNatClampNeg) (F' := (128, [(0, .ref 83), (3, .int v3), (4, .int v4)], [])) (S' := (am_sh, hx, w19.1, w19.2)) (by subst h_w19; rfl) hn18 ?_
      refine am_Rn.run am_h163 2 (F' := (88, [(4, .int (v4 + 1)), (0, .ref 83), (3, .int v3)], [])) (S' := (am_sh, hx, w19.1, w19.2)) rfl ?_
      refine am_Rn.sub [1, 2, 0] rfl rfl ?_
      exact ezM_figure_L88 hd R n v3 (v4 + 1) w19 hp
    · obtain ⟨w20, h_w20, hp⟩ := am_b_e hp
      refine am_Rn.run am_h163 9 (F' := (145, [(0, .ref 83), (3, .int v3), (4, .int v4)], [.int v3])) (S' := (am_sh, hx, w20.1, w20.2)) (by subst h_w20; rfl) ?_
      cases hp
      exact am_Rn.ret am_h163 rfl
def zM_figure (v1 : Int32) (v2 : Int32) (w : zHM) : Option (Int32 × zHM) := am_b (zM_isIn v1 0 2) fun r1 => if r1 = 0 then (some (((-1), w))) else (am_b (zM_isIn v2 1 99) fun r3 => if r3 = 0 then (some (((-1), w))) else (if (w.1 84 1) = 6 then (some (((-1), w))) else (am_b (w.1 84 1) fun x6 => am_ix 350 (20 + (2 * x6)) (am_b ((va_up w.1 84 (upd (w.1 84) ((20 + (2 * x6)).toNatClampNeg) v1), w.2)) fun w8 => am_ix 350 ((20 + (2 * x6)) + 1) (am_b ((va_up w8.1 84 (upd (w8.1 84) (((20 + (2 * x6)) + 1).toNatClampNeg) v2), w8.2)) fun w10 => am_ix 350 (34 + x6) (am_b ((va_up w10.1 84 (upd (w10.1 84) ((34 + x6).toNatClampNeg) 0), w10.2)) fun w12 => am_ix 350 (40 + x6) (am_b ((va_up w12.1 84 (upd (w12.1 84) ((40 + x6).toNatClampNeg) (-1)), w12.2)) fun w14 => zM_figure_L88 am_N x6 0 w14)))))))
set_option maxRecDepth 20000 in
theorem ezM_figure {d : Nat} (hd : 1 ≤ d) (v1 : Int32) (v2 : Int32) (w : zHM) (R : Int32 × zHM) (hp : zM_figure v1 v2 w = some R) : am_Ev 83 Xs am_P d 163 [.ref 83, .int v1, .int v2] (am_sh, hx, w.1, w.2) (some (.int R.1), (am_sh, hx, R.2.1, R.2.2)) := by
  obtain ⟨d, rfl⟩ : ∃ k, d = k + 1 := ⟨d - 1, by omega⟩
  unfold zM_figure at hp
  show am_Rn 83 Xs am_P _ 163 (0, [(0, .ref 83), (1, .int v1), (2, .int v2)], []) _ _
  refine am_Rn.run am_h163 3 (F' := (3, [(0, .ref 83), (1, .int v1), (2, .int v2)], [.int 2, .int 0, .int v1])) (S' := (am_sh, hx, w.1, w.2)) rfl ?_
  obtain ⟨r1, h_r1, hp⟩ := am_b_e hp
  refine am_Rn.call am_h163 (mj := 152) (As := [.int v1, .int 0, .int 2]) (F' := (6, [(0, .ref 83), (1, .int v1), (2, .int v2)], [])) (M' := am_m152) (r := some (.int r1)) (S1 := (am_sh, hx, w.1, w.2)) rfl am_h152 rfl (by subst h_r1; exact (ezM_isIn (by omega) v1 0 2)) ?_
  refine am_Rn.ite am_h163 (c := r1 = 0) (t := 30) (f := 9) (lv := [(0, .ref 83), (1, .int v1), (2, .int v2)]) (st := []) (S' := (am_sh, hx, w.1, w.2)) rfl hp (fun hc2 hp => ?_) (fun hc2 hp => ?_)
  · refine am_Rn.run am_h163 1 (F' := (31, [(0, .ref 83), (1, .int v1), (2, .int v2)], [.int (-1)])) (S' := (am_sh, hx, w.1, w.2)) rfl ?_
    cases hp
    exact am_Rn.ret am_h163 rfl
  · refine am_Rn.run am_h163 3 (F' := (13, [(0, .ref 83), (1, .int v1), (2, .int v2)], [.int 99, .int 1, .int v2])) (S' := (am_sh, hx, w.1, w.2)) rfl ?_
    obtain ⟨r3, h_r3, hp⟩ := am_b_e hp
    refine am_Rn.call am_h163 (mj := 152) (As := [.int v2, .int 1, .int 99]) (F' := (16, [(0, .ref 83), (1, .int v1), (2, .int v2)], [])) (M' := am_m152) (r := some (.int r3)) (S1 := (am_sh, hx, w.1, w.2)) rfl am_h152 rfl (by subst h_r3; exact (ezM_isIn (by omega) v2 1 99)) ?_
    refine am_Rn.ite am_h163 (c := r3 = 0) (t := 30) (f := 19) (lv := [(0, .ref 83), (1, .int v1), (2, .int v2)]) (st := []) (S' := (am_sh, hx, w.1, w.2)) rfl hp (fun hc4 hp => ?_) (fun hc4 hp => ?_)
    · refine am_Rn.run am_h163 1 (F' := (31, [(0, .ref 83), (1, .int v1), (2, .int v2)], [.int (-1)])) (S' := (am_sh, hx, w.1, w.2)) rfl ?_
      cases hp
      exact am_Rn.ret am_h163 rfl
    · refine am_Rn.run am_h163 5 (F' := (27, [(0, .ref 83), (1, .int v1), (2, .int v2)], [.int 6, .int (w.1 84 1)])) (S' := (am_sh, hx, w.1, w.2)) rfl ?_
      refine am_Rn.ite am_h163 (c := (w.1 84 1) = 6) (t := 30) (f := 32) (lv := [(0, .ref 83), (1, .int v1), (2, .int v2)]) (st := []) (S' := (am_sh, hx, w.1, w.2)) rfl hp (fun hc5 hp => ?_) (fun hc5 hp => ?_)
      · refine am_Rn.run am_h163 1 (F' := (31, [(0, .ref 83), (1, .int v1), (2, .int v2)], [.int (-1)])) (S' := (am_sh, hx, w.1, w.2)) rfl ?_
        cases hp
        exact am_Rn.ret am_h163 rfl
      · obtain ⟨x6, h_x6, hp⟩ := am_b_e hp
        refine am_Rn.run am_h163 13 (F' := (50, [(3, .int x6), (0, .ref 83), (1, .int v1), (2, .int v2)], [.int v1, .int (20 + (2 * x6)), .ref 84])) (S' := (am_sh, hx, w.1, w.2)) (by subst h_x6; rfl) ?_
        obtain ⟨hn7, hp⟩ := am_ix_e hp
        obtain ⟨w8, h_w8, hp⟩ := am_b_e hp
        refine am_Rn.stepG am_h163 (c := (20 + (2 * x6)) < 0 ∨ 350 ≤ (20 + (2 * x6)).toNatClampNeg) (F' := (51, [(3, .int x6), (0, .ref 83), (1, .int v1), (2, .int v2)], [])) (S' := (am_sh, hx, w8.1, w8.2)) (by subst h_w8; rfl) hn7 ?_
        refine am_Rn.run am_h163 10 (F' := (64, [(3, .int x6), (0, .ref 83), (1, .int v1), (2, .int v2)], [.int v2, .int ((20 + (2 * x6)) + 1), .ref 84])) (S' := (am_sh, hx, w8.1, w8.2)) rfl ?_
        obtain ⟨hn9, hp⟩ := am_ix_e hp
        obtain ⟨w10, h_w10, hp⟩ := am_b_e hp
        refine am_Rn.stepG am_h163 (c := ((20 + (2 * x6)) + 1) < 0 ∨ 350 ≤ ((20 + (2 * x6)) + 1).toNatClampNeg) (F' := (65, [(3, .int x6), (0, .ref 83), (1, .int v1), (2, .int v2)], [])) (S' := (am_sh, hx, w10.1, w10.2)) (by subst h_w10; rfl) hn9 ?_
        refine am_Rn.run am_h163 6 (F' := (74, [(3, .int x6), (0, .ref 83), (1, .int v1), (2, .int v2)], [.int 0, .int (34 + x6), .ref 84])) (S' := (am_sh, hx, w10.1, w10.2)) rfl ?_
        obtain ⟨hn11, hp⟩ := am_ix_e hp
        obtain ⟨w12, h_w12, hp⟩ := am_b_e hp
        refine am_Rn.stepG am_h163 (c := (34 + x6) < 0 ∨ 350 ≤ (34 + x6).toNatClampNeg) (F' := (75, [(3, .int x6), (0, .ref 83), (1, .int v1), (2, .int v2)], [])) (S' := (am_sh, hx, w12.1, w12.2)) (by subst h_w12; rfl) hn11 ?_
        refine am_Rn.run am_h163 6 (F' := (84, [(3, .int x6), (0, .ref 83), (1, .int v1), (2, .int v2)], [.int (-1), .int (40 + x6), .ref 84])) (S' := (am_sh, hx, w12.1, w12.2)) rfl ?_
        obtain ⟨hn13, hp⟩ := am_ix_e hp
        obtain ⟨w14, h_w14, hp⟩ := am_b_e hp
        refine am_Rn.stepG am_h163 (c := (40 + x6) < 0 ∨ 350 ≤ (40 + x6).toNatClampNeg) (F' := (85, [(3, .int x6), (0, .ref 83), (1, .int v1), (2, .int v2)], [])) (S' := (am_sh, hx, w14.1, w14.2)) (by subst h_w14; rfl) hn13 ?_
        refine am_Rn.run am_h163 2 (F' := (88, [(4, .int 0), (3, .int x6), (0, .ref 83), (1, .int v1), (2, .int v2)], [])) (S' := (am_sh, hx, w14.1, w14.2)) rfl ?_
        refine am_Rn.sub [2, 1, 0] rfl rfl ?_
        exact ezM_figure_L88 hd R am_N x6 0 w14 hp
/-- SixHandsModel.rules(II)Z [83] -/
def zM_rules (v1 : Int32) (v2 : Int32) (w : zHM) : Int32 × zHM := am_b (zM_isIn v1 0 6) fun r1 => if r1 = 0 then ((0, w)) else (am_b (zM_isIn v2 0 24) fun r3 => if r3 = 0 then ((0, w)) else (am_b ((va_up w.1 84 (upd (w.1 84) 2 v1), w.2)) fun w5 => am_b ((va_up w5.1 84 (upd (w5.1 84) 3 v2), w5.2)) fun w6 => (1, w6)))
set_option maxRecDepth 20000 in
theorem ezM_rules {d : Nat} (hd : 1 ≤ d) (v1 : Int32) (v2 : Int32) (w : zHM) : am_Ev 83 Xs am_P d 164 [.ref 83, .int v1, .int v2] (am_sh, hx, w.1, w.2) (some (.int (((zM_rules v1 v2 w)).1)), (am_sh, hx, (((zM_rules v1 v2 w)).2).1, (((zM_rules v1 v2 w)).2).2)) := by
  obtain ⟨R, hp⟩ : ∃ R, zM_rules v1 v2 w = R := ⟨_, rfl⟩
  rw [hp]
  obtain ⟨d, rfl⟩ : ∃ k, d = k + 1 := ⟨d - 1, by omega⟩
  unfold zM_rules at hp
  show am_Rn 83 Xs am_P _ 164 (0, [(0, .ref 83), (1, .int v1), (2, .int v2)], []) _ _
  refine am_Rn.run am_h164 3 (F' := (4, [(0, .ref 83), (1, .int v1), (2, .int v2)], [.int 6, .int 0, .int v1])) (S' := (am_sh, hx, w.1, w.2)) rfl ?_
  obtain ⟨r1, h_r1, hp⟩ := am_b_e hp
  refine am_Rn.call am_h164 (mj := 152) (As := [.int v1, .int 0, .int 6]) (F' := (7, [(0, .ref 83), (1, .int v1), (2, .int v2)], [])) (M' := am_m152) (r := some (.int r1)) (S1 := (am_sh, hx, w.1, w.2)) rfl am_h152 rfl (by subst h_r1; exact (ezM_isIn (by omega) v1 0 6)) ?_
  refine am_Rn.ite am_h164 (c := r1 = 0) (t := 20) (f := 10) (lv := [(0, .ref 83), (1, .int v1), (2, .int v2)]) (st := []) (S' := (am_sh, hx, w.1, w.2)) rfl hp (fun hc2 hp => ?_) (fun hc2 hp => ?_)
  · refine am_Rn.run am_h164 1 (F' := (21, [(0, .ref 83), (1, .int v1), (2, .int v2)], [.int 0])) (S' := (am_sh, hx, w.1, w.2)) rfl ?_
    subst hp
    exact am_Rn.ret am_h164 rfl
  · refine am_Rn.run am_h164 3 (F' := (14, [(0, .ref 83), (1, .int v1), (2, .int v2)], [.int 24, .int 0, .int v2])) (S' := (am_sh, hx, w.1, w.2)) rfl ?_
    obtain ⟨r3, h_r3, hp⟩ := am_b_e hp
    refine am_Rn.call am_h164 (mj := 152) (As := [.int v2, .int 0, .int 24]) (F' := (17, [(0, .ref 83), (1, .int v1), (2, .int v2)], [])) (M' := am_m152) (r := some (.int r3)) (S1 := (am_sh, hx, w.1, w.2)) rfl am_h152 rfl (by subst h_r3; exact (ezM_isIn (by omega) v2 0 24)) ?_
    refine am_Rn.ite am_h164 (c := r3 = 0) (t := 20) (f := 22) (lv := [(0, .ref 83), (1, .int v1), (2, .int v2)]) (st := []) (S' := (am_sh, hx, w.1, w.2)) rfl hp (fun hc4 hp => ?_) (fun hc4 hp => ?_)
    · refine am_Rn.run am_h164 1 (F' := (21, [(0, .ref 83), (1, .int v1), (2, .int v2)], [.int 0])) (S' := (am_sh, hx, w.1, w.2)) rfl ?_
      subst hp
      exact am_Rn.ret am_h164 rfl
    · obtain ⟨w5, h_w5, hp⟩ := am_b_e hp
      obtain ⟨w6, h_w6, hp⟩ := am_b_e hp
      refine am_Rn.run am_h164 11 (F' := (37, [(0, .ref 83), (1, .int v1), (2, .int v2)], [.int 1])) (S' := (am_sh, hx, w6.1, w6.2)) (by subst h_w5; subst h_w6; rfl) ?_
      subst hp
      exact am_Rn.ret am_h164 rfl
/-- SixHandsModel.four(I)V [83] -/
def zM_four_L3 : Nat → Int32 → Int32 → zHM → Option (zHM)
  | 0, _, _, _ => none
  | n + 1, v1, v2, w => if v2 < 0 then (some w) else (am_ix 300 (w.1 83 5) (am_b ((va_up w.1 87 (upd (w.1 87) ((w.1 83 5).toNatClampNeg) ((v1 >>> (v2 &&& 31)) &&& 255)), w.2)) fun w3 => am_b ((va_up w3.1 83 (upd (w3.1 83) 5 ((w3.1 83 5) + 1)), w3.2)) fun w4 => am_b (v2 + (-8)) fun x5 => zM_four_L3 n v1 x5 w4))
set_option maxRecDepth 20000 in
theorem ezM_four_L3 {d : Nat} (hd : 0 ≤ d) (R : zHM) : ∀ (n : Nat) (v1 : Int32) (v2 : Int32) (w : zHM), zM_four_L3 n v1 v2 w = some R → am_Rn 83 Xs am_P d 165 (3, [(0, .ref 83), (1, .int v1), (2, .int v2)], []) (am_sh, hx, w.1, w.2) (none, (am_sh, hx, R.1, R.2))
  | 0, _, _, _, hp => by cases hp
  | n + 1, v1, v2, w, hp => by
    unfold zM_four_L3 at hp
    refine am_Rn.run am_h165 1 (F' := (4, [(0, .ref 83), (1, .int v1), (2, .int v2)], [.int v2])) (S' := (am_sh, hx, w.1, w.2)) rfl ?_
    refine am_Rn.ite am_h165 (c := v2 < 0) (t := 39) (f := 7) (lv := [(0, .ref 83), (1, .int v1), (2, .int v2)]) (st := []) (S' := (am_sh, hx, w.1, w.2)) rfl hp (fun hc1 hp => ?_) (fun hc1 hp => ?_)
    · cases hp
      exact am_Rn.ret am_h165 rfl
    · refine am_Rn.run am_h165 9 (F' := (22, [(0, .ref 83), (1, .int v1), (2, .int v2)], [.int ((v1 >>> (v2 &&& 31)) &&& 255), .int (w.1 83 5), .ref 87])) (S' := (am_sh, hx, w.1, w.2)) rfl ?_
      obtain ⟨hn2, hp⟩ := am_ix_e hp
      obtain ⟨w3, h_w3, hp⟩ := am_b_e hp
      refine am_Rn.stepG am_h165 (c := (w.1 83 5) < 0 ∨ 300 ≤ (w.1 83 5).toNatClampNeg) (F' := (23, [(0, .ref 83), (1, .int v1), (2, .int v2)], [])) (S' := (am_sh, hx, w3.1, w3.2)) (by subst h_w3; rfl) hn2 ?_
      obtain ⟨w4, h_w4, hp⟩ := am_b_e hp
      obtain ⟨x5, h_x5, hp⟩ := am_b_e hp
      refine am_Rn.run am_h165 8 (F' := (3, [(2, .int x5), (0, .ref 83), (1, .int v1)], [])) (S' := (am_sh, hx, w4.1, w4.2)) (by subst h_w4; subst h_x5; rfl) ?_
      refine am_Rn.sub [1, 2, 0] rfl rfl ?_
      exact ezM_four_L3 hd R n v1 x5 w4 hp
def zM_four (v1 : Int32) (w : zHM) : Option (zHM) := zM_four_L3 am_N v1 24 w
set_option maxRecDepth 20000 in
theorem ezM_four {d : Nat} (hd : 0 ≤ d) (v1 : Int32) (w : zHM) (R : zHM) (hp : zM_four v1 w = some R) : am_Ev 83 Xs am_P d 165 [.ref 83, .int v1] (am_sh, hx, w.1, w.2) (none, (am_sh, hx, R.1, R.2)) := by
  unfold zM_four at hp
  show am_Rn 83 Xs am_P _ 165 (0, [(0, .ref 83), (1, .int v1)], []) _ _
  refine am_Rn.run am_h165 2 (F' := (3, [(2, .int 24), (0, .ref 83), (1, .int v1)], [])) (S' := (am_sh, hx, w.1, w.2)) rfl ?_
  refine am_Rn.sub [1, 2, 0] rfl rfl ?_
  exact ezM_four_L3 hd R am_N v1 24 w hp
/-- SixHandsModel.feed(IIIII)I [83] -/
def zM_feed (v1 : Int32) (v2 : Int32) (v3 : Int32) (v4 : Int32) (v5 : Int32) (w : zHM) : Option (Int32 × zHM) := if 300 < ((w.1 83 5) + 20) then (some (((-1), w))) else ((zM_four v1 w).bind fun r2 => (zM_four v2 r2).bind fun r3 => (zM_four v3 r3).bind fun r4 => (zM_four v4 r4).bind fun r5 => (zM_four v5 r5).bind fun r6 => some ((r6.1 83 5, r6)))
set_option maxRecDepth 20000 in
theorem ezM_feed {d : Nat} (hd : 1 ≤ d) (v1 : Int32) (v2 : Int32) (v3 : Int32) (v4 : Int32) (v5 : Int32) (w : zHM) (R : Int32 × zHM) (hp : zM_feed v1 v2 v3 v4 v5 w = some R) : am_Ev 83 Xs am_P d 166 [.ref 83, .int v1, .int v2, .int v3, .int v4, .int v5] (am_sh, hx, w.1, w.2) (some (.int R.1), (am_sh, hx, R.2.1, R.2.2)) := by
  obtain ⟨d, rfl⟩ : ∃ k, d = k + 1 := ⟨d - 1, by omega⟩
  unfold zM_feed at hp
  show am_Rn 83 Xs am_P _ 166 (0, [(0, .ref 83), (1, .int v1), (2, .int v2), (3, .int v3), (4, .int v4), (5, .int v5)], []) _ _
  refine am_Rn.run am_h166 5 (F' := (10, [(0, .ref 83), (1, .int v1), (2, .int v2), (3, .int v3), (4, .int v4), (5, .int v5)], [.int 300, .int ((w.1 83 5) + 20)])) (S' := (am_sh, hx, w.1, w.2)) rfl ?_
  refine am_Rn.ite am_h166 (c := 300 < ((w.1 83 5) + 20)) (t := 13) (f := 15) (lv := [(0, .ref 83), (1, .int v1), (2, .int v2), (3, .int v3), (4, .int v4), (5, .int v5)]) (st := []) (S' := (am_sh, hx, w.1, w.2)) rfl hp (fun hc1 hp => ?_) (fun hc1 hp => ?_)
  · refine am_Rn.run am_h166 1 (F' := (14, [(0, .ref 83), (1, .int v1), (2, .int v2), (3, .int v3), (4, .int v4), (5, .int v5)], [.int (-1)])) (S' := (am_sh, hx, w.1, w.2)) rfl ?_
    cases hp
    exact am_Rn.ret am_h166 rfl
  · refine am_Rn.run am_h166 2 (F' := (17, [(0, .ref 83), (1, .int v1), (2, .int v2), (3, .int v3), (4, .int v4), (5, .int v5)], [.int v1, .ref 83])) (S' := (am_sh, hx, w.1, w.2)) rfl ?_
    obtain ⟨r2, h_r2, hp⟩ := am_bind hp
    refine am_Rn.call am_h166 (mj := 165) (As := [.ref 83, .int v1]) (F' := (20, [(0, .ref 83), (1, .int v1), (2, .int v2), (3, .int v3), (4, .int v4), (5, .int v5)], [])) (M' := am_m165) (r := none) (S1 := (am_sh, hx, r2.1, r2.2)) rfl am_h165 rfl (ezM_four (by omega) v1 w _ h_r2) ?_
    refine am_Rn.run am_h166 2 (F' := (22, [(0, .ref 83), (1, .int v1), (2, .int v2), (3, .int v3), (4, .int v4), (5, .int v5)], [.int v2, .ref 83])) (S' := (am_sh, hx, r2.1, r2.2)) rfl ?_
    obtain ⟨r3, h_r3, hp⟩ := am_bind hp
    refine am_Rn.call am_h166 (mj := 165) (As := [.ref 83, .int v2]) (F' := (25, [(0, .ref 83), (1, .int v1), (2, .int v2), (3, .int v3), (4, .int v4), (5, .int v5)], [])) (M' := am_m165) (r := none) (S1 := (am_sh, hx, r3.1, r3.2)) rfl am_h165 rfl (ezM_four (by omega) v2 r2 _ h_r3) ?_
    refine am_Rn.run am_h166 2 (F' := (27, [(0, .ref 83), (1, .int v1), (2, .int v2), (3, .int v3), (4, .int v4), (5, .int v5)], [.int v3, .ref 83])) (S' := (am_sh, hx, r3.1, r3.2)) rfl ?_
    obtain ⟨r4, h_r4, hp⟩ := am_bind hp
    refine am_Rn.call am_h166 (mj := 165) (As := [.ref 83, .int v3]) (F' := (30, [(0, .ref 83), (1, .int v1), (2, .int v2), (3, .int v3), (4, .int v4), (5, .int v5)], [])) (M' := am_m165) (r := none) (S1 := (am_sh, hx, r4.1, r4.2)) rfl am_h165 rfl (ezM_four (by omega) v3 r3 _ h_r4) ?_
    refine am_Rn.run am_h166 2 (F' := (33, [(0, .ref 83), (1, .int v1), (2, .int v2), (3, .int v3), (4, .int v4), (5, .int v5)], [.int v4, .ref 83])) (S' := (am_sh, hx, r4.1, r4.2)) rfl ?_
    obtain ⟨r5, h_r5, hp⟩ := am_bind hp
    refine am_Rn.call am_h166 (mj := 165) (As := [.ref 83, .int v4]) (F' := (36, [(0, .ref 83), (1, .int v1), (2, .int v2), (3, .int v3), (4, .int v4), (5, .int v5)], [])) (M' := am_m165) (r := none) (S1 := (am_sh, hx, r5.1, r5.2)) rfl am_h165 rfl (ezM_four (by omega) v4 r4 _ h_r5) ?_
    refine am_Rn.run am_h166 2 (F' := (39, [(0, .ref 83), (1, .int v1), (2, .int v2), (3, .int v3), (4, .int v4), (5, .int v5)], [.int v5, .ref 83])) (S' := (am_sh, hx, r5.1, r5.2)) rfl ?_
    obtain ⟨r6, h_r6, hp⟩ := am_bind hp
    refine am_Rn.call am_h166 (mj := 165) (As := [.ref 83, .int v5]) (F' := (42, [(0, .ref 83), (1, .int v1), (2, .int v2), (3, .int v3), (4, .int v4), (5, .int v5)], [])) (M' := am_m165) (r := none) (S1 := (am_sh, hx, r6.1, r6.2)) rfl am_h165 rfl (ezM_four (by omega) v5 r5 _ h_r6) ?_
    refine am_Rn.run am_h166 2 (F' := (46, [(0, .ref 83), (1, .int v1), (2, .int v2), (3, .int v3), (4, .int v4), (5, .int v5)], [.int (r6.1 83 5)])) (S' := (am_sh, hx, r6.1, r6.2)) rfl ?_
    cases hp
    exact am_Rn.ret am_h166 rfl
/-- SixHandsModel.end(I)I [83] -/
def zM_end (v1 : Int32) (w : zHM) : Int32 × zHM := am_b (zM_isIn v1 0 (w.1 83 5)) fun r1 => if r1 = 0 then (((-1), w)) else (am_b ((va_up w.1 83 (upd (w.1 83) 5 v1), w.2)) fun w3 => (v1, w3))
set_option maxRecDepth 20000 in
theorem ezM_end {d : Nat} (hd : 1 ≤ d) (v1 : Int32) (w : zHM) : am_Ev 83 Xs am_P d 167 [.ref 83, .int v1] (am_sh, hx, w.1, w.2) (some (.int (((zM_end v1 w)).1)), (am_sh, hx, (((zM_end v1 w)).2).1, (((zM_end v1 w)).2).2)) := by
  obtain ⟨R, hp⟩ : ∃ R, zM_end v1 w = R := ⟨_, rfl⟩
  rw [hp]
  obtain ⟨d, rfl⟩ : ∃ k, d = k + 1 := ⟨d - 1, by omega⟩
  unfold zM_end at hp
  show am_Rn 83 Xs am_P _ 167 (0, [(0, .ref 83), (1, .int v1)], []) _ _
  refine am_Rn.run am_h167 4 (F' := (6, [(0, .ref 83), (1, .int v1)], [.int (w.1 83 5), .int 0, .int v1])) (S' := (am_sh, hx, w.1, w.2)) rfl ?_
  obtain ⟨r1, h_r1, hp⟩ := am_b_e hp
  refine am_Rn.call am_h167 (mj := 152) (As := [.int v1, .int 0, .int (w.1 83 5)]) (F' := (9, [(0, .ref 83), (1, .int v1)], [])) (M' := am_m152) (r := some (.int r1)) (S1 := (am_sh, hx, w.1, w.2)) rfl am_h152 rfl (by subst h_r1; exact (ezM_isIn (by omega) v1 0 (w.1 83 5))) ?_
  refine am_Rn.ite am_h167 (c := r1 = 0) (t := 12) (f := 14) (lv := [(0, .ref 83), (1, .int v1)]) (st := []) (S' := (am_sh, hx, w.1, w.2)) rfl hp (fun hc2 hp => ?_) (fun hc2 hp => ?_)
  · refine am_Rn.run am_h167 1 (F' := (13, [(0, .ref 83), (1, .int v1)], [.int (-1)])) (S' := (am_sh, hx, w.1, w.2)) rfl ?_
    subst hp
    exact am_Rn.ret am_h167 rfl
  · obtain ⟨w3, h_w3, hp⟩ := am_b_e hp
    refine am_Rn.run am_h167 4 (F' := (20, [(0, .ref 83), (1, .int v1)], [.int v1])) (S' := (am_sh, hx, w3.1, w3.2)) (by subst h_w3; rfl) ?_
    subst hp
    exact am_Rn.ret am_h167 rfl
/-- SixHandsModel.byteAt(I)I [83] -/
def zM_byteAt (v1 : Int32) (w : zHM) : Option (Int32) := if v1 < (w.1 83 5) then (am_ix 300 v1 (some (w.1 87 (v1.toNatClampNeg)))) else (some (-1))
set_option maxRecDepth 20000 in
theorem ezM_byteAt {d : Nat} (hd : 0 ≤ d) (v1 : Int32) (w : zHM) (R : Int32) (hp : zM_byteAt v1 w = some R) : am_Ev 83 Xs am_P d 168 [.ref 83, .int v1] (am_sh, hx, w.1, w.2) (some (.int R), (am_sh, hx, w.1, w.2)) := by
  unfold zM_byteAt at hp
  show am_Rn 83 Xs am_P _ 168 (0, [(0, .ref 83), (1, .int v1)], []) _ _
  refine am_Rn.run am_h168 3 (F' := (5, [(0, .ref 83), (1, .int v1)], [.int (w.1 83 5), .int v1])) (S' := (am_sh, hx, w.1, w.2)) rfl ?_
  refine am_Rn.ite am_h168 (c := v1 < (w.1 83 5)) (t := 8) (f := 17) (lv := [(0, .ref 83), (1, .int v1)]) (st := []) (S' := (am_sh, hx, w.1, w.2)) rfl hp (fun hc1 hp => ?_) (fun hc1 hp => ?_)
  · refine am_Rn.run am_h168 3 (F' := (13, [(0, .ref 83), (1, .int v1)], [.int v1, .ref 87])) (S' := (am_sh, hx, w.1, w.2)) rfl ?_
    obtain ⟨hn2, hp⟩ := am_ix_e hp
    refine am_Rn.stepG am_h168 (c := v1 < 0 ∨ 300 ≤ v1.toNatClampNeg) (F' := (14, [(0, .ref 83), (1, .int v1)], [.int (w.1 87 (v1.toNatClampNeg))])) (S' := (am_sh, hx, w.1, w.2)) rfl hn2 ?_
    refine am_Rn.run am_h168 1 (F' := (18, [(0, .ref 83), (1, .int v1)], [.int (w.1 87 (v1.toNatClampNeg))])) (S' := (am_sh, hx, w.1, w.2)) rfl ?_
    cases hp
    exact am_Rn.ret am_h168 rfl
  · refine am_Rn.run am_h168 1 (F' := (18, [(0, .ref 83), (1, .int v1)], [.int (-1)])) (S' := (am_sh, hx, w.1, w.2)) rfl ?_
    cases hp
    exact am_Rn.ret am_h168 rfl
/-- SixHandsModel.isDigit(I)Z [] -/
def zM_isDigit (v0 : Int32) : Int32 := am_b (zM_isIn v0 48 57) fun r1 => r1 &&& 1
set_option maxRecDepth 20000 in
theorem ezM_isDigit {d : Nat} (hd : 1 ≤ d) (v0 : Int32) : am_Ev 83 Xs am_P d 170 [.int v0] S (some (.int ((zM_isDigit v0))), S) := by
  obtain ⟨R, hp⟩ : ∃ R, zM_isDigit v0 = R := ⟨_, rfl⟩
  rw [hp]
  obtain ⟨d, rfl⟩ : ∃ k, d = k + 1 := ⟨d - 1, by omega⟩
  unfold zM_isDigit at hp
  show am_Rn 83 Xs am_P _ 170 (0, [(0, .int v0)], []) _ _
  refine am_Rn.run am_h170 3 (F' := (5, [(0, .int v0)], [.int 57, .int 48, .int v0])) (S' := S) rfl ?_
  obtain ⟨r1, h_r1, hp⟩ := am_b_e hp
  refine am_Rn.call am_h170 (mj := 152) (As := [.int v0, .int 48, .int 57]) (F' := (8, [(0, .int v0)], [])) (M' := am_m152) (r := some (.int r1)) (S1 := S) rfl am_h152 rfl (by subst h_r1; exact (ezM_isIn (by omega) v0 48 57)) ?_
  subst hp
  exact am_Rn.ret am_h170 rfl
/-- SixHandsModel.isLetter(I)Z [] -/
def zM_isLetter (v0 : Int32) : Int32 := am_b (zM_isIn v0 97 122) fun r1 => if r1 = 0 then (am_b (zM_isIn v0 65 90) fun r3 => if r3 = 0 then (0) else (1)) else (1)
set_option maxRecDepth 20000 in
theorem ezM_isLetter {d : Nat} (hd : 1 ≤ d) (v0 : Int32) : am_Ev 83 Xs am_P d 169 [.int v0] S (some (.int ((zM_isLetter v0))), S) := by
  obtain ⟨R, hp⟩ : ∃ R, zM_isLetter v0 = R := ⟨_, rfl⟩
  rw [hp]
  obtain ⟨d, rfl⟩ : ∃ k, d = k + 1 := ⟨d - 1, by omega⟩
  unfold zM_isLetter at hp
  show am_Rn 83 Xs am_P _ 169 (0, [(0, .int v0)], []) _ _
  refine am_Rn.run am_h169 3 (F' := (5, [(0, .int v0)], [.int 122, .int 97, .int v0])) (S' := S) rfl ?_
  obtain ⟨r1, h_r1, hp⟩ := am_b_e hp
  refine am_Rn.call am_h169 (mj := 152) (As := [.int v0, .int 97, .int 122]) (F' := (8, [(0, .int v0)], [])) (M' := am_m152) (r := some (.int r1)) (S1 := S) rfl am_h152 rfl (by subst h_r1; exact (ezM_isIn (by omega) v0 97 122)) ?_
  refine am_Rn.ite am_h169 (c := r1 = 0) (t := 11) (f := 22) (lv := [(0, .int v0)]) (st := []) (S' := S) rfl hp (fun hc2 hp => ?_) (fun hc2 hp => ?_)
  · refine am_Rn.run am_h169 3 (F' := (16, [(0, .int v0)], [.int 90, .int 65, .int v0])) (S' := S) rfl ?_
    obtain ⟨r3, h_r3, hp⟩ := am_b_e hp
    refine am_Rn.call am_h169 (mj := 152) (As := [.int v0, .int 65, .int 90]) (F' := (19, [(0, .int v0)], [])) (M' := am_m152) (r := some (.int r3)) (S1 := S) rfl am_h152 rfl (by subst h_r3; exact (ezM_isIn (by omega) v0 65 90)) ?_
    refine am_Rn.ite am_h169 (c := r3 = 0) (t := 26) (f := 22) (lv := [(0, .int v0)]) (st := []) (S' := S) rfl hp (fun hc4 hp => ?_) (fun hc4 hp => ?_)
    · refine am_Rn.run am_h169 1 (F' := (27, [(0, .int v0)], [.int 0])) (S' := S) rfl ?_
      subst hp
      exact am_Rn.ret am_h169 rfl
    · refine am_Rn.run am_h169 2 (F' := (27, [(0, .int v0)], [.int 1])) (S' := S) rfl ?_
      subst hp
      exact am_Rn.ret am_h169 rfl
  · refine am_Rn.run am_h169 2 (F' := (27, [(0, .int v0)], [.int 1])) (S' := S) rfl ?_
    subst hp
    exact am_Rn.ret am_h169 rfl
/-- SixHandsModel.nextToken()V [83] -/
def zM_nextToken_J26 (k0 : zHM → Option (zHM)) (w : zHM) : Option (zHM) := am_b ((va_up w.1 83 (upd (w.1 83) 8 ((w.1 83 8) + 1)), w.2)) fun w3 => k0 w3
set_option maxRecDepth 20000 in
theorem ezM_nextToken_J26 {d : Nat} (hd : 2 ≤ d) (R : zHM) (k0 : zHM → Option (zHM)) (hk0 : ∀ (w : zHM), k0 w = some R → am_Rn 83 Xs am_P d 171 (0, [(0, .ref 83)], []) (am_sh, hx, w.1, w.2) (none, (am_sh, hx, R.1, R.2))) (w : zHM) (hp : zM_nextToken_J26 k0 w = some R) : am_Rn 83 Xs am_P d 171 (26, [(0, .ref 83)], []) (am_sh, hx, w.1, w.2) (none, (am_sh, hx, R.1, R.2)) := by
  obtain ⟨d, rfl⟩ : ∃ k, d = k + 1 := ⟨d - 1, by omega⟩
  unfold zM_nextToken_J26 at hp
  obtain ⟨w3, h_w3, hp⟩ := am_b_e hp
  refine am_Rn.run am_h171 7 (F' := (0, [(0, .ref 83)], [])) (S' := (am_sh, hx, w3.1, w3.2)) (by subst h_w3; rfl) ?_
  exact hk0 w3 hp
def zM_nextToken_J358 (v1 : Int32) (w : zHM) : Option (zHM) := (zM_byteAt (w.1 83 8) w).bind fun r19 => if r19 = 61 then (am_b ((va_up w.1 83 (upd (w.1 83) 8 ((w.1 83 8) + 1)), w.2)) fun w21 => if v1 = 60 then (am_b ((va_up w21.1 83 (upd (w21.1 83) 10 4), w21.2)) fun w23 => some w23) else (am_b ((va_up w21.1 83 (upd (w21.1 83) 10 5), w21.2)) fun w24 => some w24)) else (some w)
set_option maxRecDepth 20000 in
theorem ezM_nextToken_J358 {d : Nat} (hd : 2 ≤ d) (R : zHM) (v1 : Int32) (w : zHM) (hp : zM_nextToken_J358 v1 w = some R) : am_Rn 83 Xs am_P d 171 (358, [(0, .ref 83), (1, .int v1)], []) (am_sh, hx, w.1, w.2) (none, (am_sh, hx, R.1, R.2)) := by
  obtain ⟨d, rfl⟩ : ∃ k, d = k + 1 := ⟨d - 1, by omega⟩
  unfold zM_nextToken_J358 at hp
  refine am_Rn.run am_h171 3 (F' := (363, [(0, .ref 83), (1, .int v1)], [.int (w.1 83 8), .ref 83])) (S' := (am_sh, hx, w.1, w.2)) rfl ?_
  obtain ⟨r19, h_r19, hp⟩ := am_bind hp
  refine am_Rn.call am_h171 (mj := 168) (As := [.ref 83, .int (w.1 83 8)]) (F' := (366, [(0, .ref 83), (1, .int v1)], [])) (M' := am_m168) (r := some (.int r19)) (S1 := (am_sh, hx, w.1, w.2)) rfl am_h168 rfl (ezM_byteAt (by omega) (w.1 83 8) w _ h_r19) ?_
  refine am_Rn.run am_h171 1 (F' := (368, [(0, .ref 83), (1, .int v1)], [.int 61, .int r19])) (S' := (am_sh, hx, w.1, w.2)) rfl ?_
  refine am_Rn.ite am_h171 (c := r19 = 61) (t := 371) (f := 396) (lv := [(0, .ref 83), (1, .int v1)]) (st := []) (S' := (am_sh, hx, w.1, w.2)) rfl hp (fun hc20 hp => ?_) (fun hc20 hp => ?_)
  · obtain ⟨w21, h_w21, hp⟩ := am_b_e hp
    refine am_Rn.run am_h171 9 (F' := (385, [(0, .ref 83), (1, .int v1)], [.int 60, .int v1, .ref 83])) (S' := (am_sh, hx, w21.1, w21.2)) (by subst h_w21; rfl) ?_
    refine am_Rn.ite am_h171 (c := v1 = 60) (t := 388) (f := 392) (lv := [(0, .ref 83), (1, .int v1)]) (st := [.ref 83]) (S' := (am_sh, hx, w21.1, w21.2)) rfl hp (fun hc22 hp => ?_) (fun hc22 hp => ?_)
    · obtain ⟨w23, h_w23, hp⟩ := am_b_e hp
      refine am_Rn.run am_h171 3 (F' := (396, [(0, .ref 83), (1, .int v1)], [])) (S' := (am_sh, hx, w23.1, w23.2)) (by subst h_w23; rfl) ?_
      cases hp
      exact am_Rn.ret am_h171 rfl
    · obtain ⟨w24, h_w24, hp⟩ := am_b_e hp
      refine am_Rn.run am_h171 2 (F' := (396, [(0, .ref 83), (1, .int v1)], [])) (S' := (am_sh, hx, w24.1, w24.2)) (by subst h_w24; rfl) ?_
      cases hp
      exact am_Rn.ret am_h171 rfl
  · cases hp
    exact am_Rn.ret am_h171 rfl
def zM_nextToken_J343 (v1 : Int32) (s1 : Int32) (w : zHM) : Option (zHM) := am_b ((va_up w.1 83 (upd (w.1 83) 10 s1), w.2)) fun w17 => if v1 = 60 then (zM_nextToken_J358 v1 w17) else (if v1 = 62 then (zM_nextToken_J358 v1 w17) else (some w17))
set_option maxRecDepth 20000 in
theorem ezM_nextToken_J343 {d : Nat} (hd : 2 ≤ d) (R : zHM) (v1 : Int32) (s1 : Int32) (w : zHM) (hp : zM_nextToken_J343 v1 s1 w = some R) : am_Rn 83 Xs am_P d 171 (343, [(0, .ref 83), (1, .int v1)], [.int s1, .ref 83]) (am_sh, hx, w.1, w.2) (none, (am_sh, hx, R.1, R.2)) := by
  obtain ⟨d, rfl⟩ : ∃ k, d = k + 1 := ⟨d - 1, by omega⟩
  unfold zM_nextToken_J343 at hp
  obtain ⟨w17, h_w17, hp⟩ := am_b_e hp
  refine am_Rn.run am_h171 3 (F' := (349, [(0, .ref 83), (1, .int v1)], [.int 60, .int v1])) (S' := (am_sh, hx, w17.1, w17.2)) (by subst h_w17; rfl) ?_
  refine am_Rn.ite am_h171 (c := v1 = 60) (t := 358) (f := 352) (lv := [(0, .ref 83), (1, .int v1)]) (st := []) (S' := (am_sh, hx, w17.1, w17.2)) rfl hp (fun hc18 hp => ?_) (fun hc18 hp => ?_)
  · exact ezM_nextToken_J358 hd R v1 w17 hp
  · refine am_Rn.run am_h171 2 (F' := (355, [(0, .ref 83), (1, .int v1)], [.int 62, .int v1])) (S' := (am_sh, hx, w17.1, w17.2)) rfl ?_
    refine am_Rn.ite am_h171 (c := v1 = 62) (t := 358) (f := 396) (lv := [(0, .ref 83), (1, .int v1)]) (st := []) (S' := (am_sh, hx, w17.1, w17.2)) rfl hp (fun hc25 hp => ?_) (fun hc25 hp => ?_)
    · exact ezM_nextToken_J358 hd R v1 w17 hp
    · cases hp
      exact am_Rn.ret am_h171 rfl
def zM_nextToken_J332 (v1 : Int32) (s0 : Int32) (w : zHM) : Option (zHM) := if s0 = 0 then (zM_nextToken_J343 v1 3 w) else (zM_nextToken_J343 v1 v1 w)
set_option maxRecDepth 20000 in
theorem ezM_nextToken_J332 {d : Nat} (hd : 2 ≤ d) (R : zHM) (v1 : Int32) (s0 : Int32) (w : zHM) (hp : zM_nextToken_J332 v1 s0 w = some R) : am_Rn 83 Xs am_P d 171 (332, [(0, .ref 83), (1, .int v1)], [.int s0]) (am_sh, hx, w.1, w.2) (none, (am_sh, hx, R.1, R.2)) := by
  obtain ⟨d, rfl⟩ : ∃ k, d = k + 1 := ⟨d - 1, by omega⟩
  unfold zM_nextToken_J332 at hp
  refine am_Rn.run am_h171 3 (F' := (335, [(2, .int s0), (0, .ref 83), (1, .int v1)], [.int s0, .ref 83])) (S' := (am_sh, hx, w.1, w.2)) rfl ?_
  refine am_Rn.ite am_h171 (c := s0 = 0) (t := 342) (f := 338) (lv := [(2, .int s0), (0, .ref 83), (1, .int v1)]) (st := [.ref 83]) (S' := (am_sh, hx, w.1, w.2)) rfl hp (fun hc16 hp => ?_) (fun hc16 hp => ?_)
  · refine am_Rn.run am_h171 1 (F' := (343, [(2, .int s0), (0, .ref 83), (1, .int v1)], [.int 3, .ref 83])) (S' := (am_sh, hx, w.1, w.2)) rfl ?_
    refine am_Rn.sub [1, 2] rfl rfl ?_
    exact ezM_nextToken_J343 hd R v1 3 w hp
  · refine am_Rn.run am_h171 2 (F' := (343, [(2, .int s0), (0, .ref 83), (1, .int v1)], [.int v1, .ref 83])) (S' := (am_sh, hx, w.1, w.2)) rfl ?_
    refine am_Rn.sub [1, 2] rfl rfl ?_
    exact ezM_nextToken_J343 hd R v1 v1 w hp
def zM_nextToken_J327 (v1 : Int32) (w : zHM) : Option (zHM) := zM_nextToken_J332 v1 1 w
set_option maxRecDepth 20000 in
theorem ezM_nextToken_J327 {d : Nat} (hd : 2 ≤ d) (R : zHM) (v1 : Int32) (w : zHM) (hp : zM_nextToken_J327 v1 w = some R) : am_Rn 83 Xs am_P d 171 (327, [(0, .ref 83), (1, .int v1)], []) (am_sh, hx, w.1, w.2) (none, (am_sh, hx, R.1, R.2)) := by
  obtain ⟨d, rfl⟩ : ∃ k, d = k + 1 := ⟨d - 1, by omega⟩
  unfold zM_nextToken_J327 at hp
  refine am_Rn.run am_h171 2 (F' := (332, [(0, .ref 83), (1, .int v1)], [.int 1])) (S' := (am_sh, hx, w.1, w.2)) rfl ?_
  exact ezM_nextToken_J332 hd R v1 1 w hp
def zM_nextToken_J210 (k161 : zHM → Option (zHM)) (w : zHM) : Option (zHM) := am_b ((va_up w.1 83 (upd (w.1 83) 8 ((w.1 83 8) + 1)), w.2)) fun w47 => k161 w47
set_option maxRecDepth 20000 in
theorem ezM_nextToken_J210 {d : Nat} (hd : 2 ≤ d) (R : zHM) (k161 : zHM → Option (zHM)) (hk161 : ∀ (w : zHM), k161 w = some R → am_Rn 83 Xs am_P d 171 (161, [(0, .ref 83)], []) (am_sh, hx, w.1, w.2) (none, (am_sh, hx, R.1, R.2))) (w : zHM) (hp : zM_nextToken_J210 k161 w = some R) : am_Rn 83 Xs am_P d 171 (210, [(0, .ref 83)], []) (am_sh, hx, w.1, w.2) (none, (am_sh, hx, R.1, R.2)) := by
  obtain ⟨d, rfl⟩ : ∃ k, d = k + 1 := ⟨d - 1, by omega⟩
  unfold zM_nextToken_J210 at hp
  obtain ⟨w47, h_w47, hp⟩ := am_b_e hp
  refine am_Rn.run am_h171 7 (F' := (161, [(0, .ref 83)], [])) (S' := (am_sh, hx, w47.1, w47.2)) (by subst h_w47; rfl) ?_
  exact hk161 w47 hp
def zM_nextToken_L161 : Nat → zHM → Option (zHM)
  | 0, _ => none
  | n + 1, w => (zM_byteAt (w.1 83 8) w).bind fun r39 => am_b (zM_isLetter r39) fun r40 => if r40 = 0 then (if 7 < ((w.1 83 8) - (w.1 83 9)) then (am_b ((w.1, va_up w.2 83 (vp_updL (w.2 83) 12 0))) fun w43 => some w43) else (some w)) else (if ((w.1 83 8) - (w.1 83 9)) < 7 then ((zM_byteAt (w.1 83 8) w).bind fun r45 => am_b ((w.1, va_up w.2 83 (vp_updL (w.2 83) 12 (((w.2 83 12) <<< ((8 : Int32).toInt64 &&& 63)) ||| (r45.toInt64))))) fun w46 => zM_nextToken_J210 (fun w => zM_nextToken_L161 n w) w46) else (zM_nextToken_J210 (fun w => zM_nextToken_L161 n w) w))
set_option maxRecDepth 20000 in
theorem ezM_nextToken_L161 {d : Nat} (hd : 2 ≤ d) (R : zHM) : ∀ (n : Nat) (w : zHM), zM_nextToken_L161 n w = some R → am_Rn 83 Xs am_P d 171 (161, [(0, .ref 83)], []) (am_sh, hx, w.1, w.2) (none, (am_sh, hx, R.1, R.2))
  | 0, _, hp => by cases hp
  | n + 1, w, hp => by
    obtain ⟨d, rfl⟩ : ∃ k, d = k + 1 := ⟨d - 1, by omega⟩
    unfold zM_nextToken_L161 at hp
    refine am_Rn.run am_h171 3 (F' := (166, [(0, .ref 83)], [.int (w.1 83 8), .ref 83])) (S' := (am_sh, hx, w.1, w.2)) rfl ?_
    obtain ⟨r39, h_r39, hp⟩ := am_bind hp
    refine am_Rn.call am_h171 (mj := 168) (As := [.ref 83, .int (w.1 83 8)]) (F' := (169, [(0, .ref 83)], [])) (M' := am_m168) (r := some (.int r39)) (S1 := (am_sh, hx, w.1, w.2)) rfl am_h168 rfl (ezM_byteAt (by omega) (w.1 83 8) w _ h_r39) ?_
    obtain ⟨r40, h_r40, hp⟩ := am_b_e hp
    refine am_Rn.call am_h171 (mj := 169) (As := [.int r39]) (F' := (172, [(0, .ref 83)], [])) (M' := am_m169) (r := some (.int r40)) (S1 := (am_sh, hx, w.1, w.2)) rfl am_h169 rfl (by subst h_r40; exact (ezM_isLetter (by omega) r39)) ?_
    refine am_Rn.ite am_h171 (c := r40 = 0) (t := 223) (f := 175) (lv := [(0, .ref 83)]) (st := []) (S' := (am_sh, hx, w.1, w.2)) rfl hp (fun hc41 hp => ?_) (fun hc41 hp => ?_)
    · refine am_Rn.run am_h171 6 (F' := (234, [(0, .ref 83)], [.int 7, .int ((w.1 83 8) - (w.1 83 9))])) (S' := (am_sh, hx, w.1, w.2)) rfl ?_
      refine am_Rn.ite am_h171 (c := 7 < ((w.1 83 8) - (w.1 83 9))) (t := 237) (f := 396) (lv := [(0, .ref 83)]) (st := []) (S' := (am_sh, hx, w.1, w.2)) rfl hp (fun hc42 hp => ?_) (fun hc42 hp => ?_)
      · obtain ⟨w43, h_w43, hp⟩ := am_b_e hp
        refine am_Rn.run am_h171 4 (F' := (396, [(0, .ref 83)], [])) (S' := (am_sh, hx, w43.1, w43.2)) (by subst h_w43; rfl) ?_
        cases hp
        exact am_Rn.ret am_h171 rfl
      · cases hp
        exact am_Rn.ret am_h171 rfl
    · refine am_Rn.run am_h171 6 (F' := (186, [(0, .ref 83)], [.int 7, .int ((w.1 83 8) - (w.1 83 9))])) (S' := (am_sh, hx, w.1, w.2)) rfl ?_
      refine am_Rn.ite am_h171 (c := ((w.1 83 8) - (w.1 83 9)) < 7) (t := 189) (f := 210) (lv := [(0, .ref 83)]) (st := []) (S' := (am_sh, hx, w.1, w.2)) rfl hp (fun hc44 hp => ?_) (fun hc44 hp => ?_)
      · refine am_Rn.run am_h171 8 (F' := (202, [(0, .ref 83)], [.int (w.1 83 8), .ref 83, .long ((w.2 83 12) <<< ((8 : Int32).toInt64 &&& 63)), .ref 83])) (S' := (am_sh, hx, w.1, w.2)) rfl ?_
        obtain ⟨r45, h_r45, hp⟩ := am_bind hp
        refine am_Rn.call am_h171 (mj := 168) (As := [.ref 83, .int (w.1 83 8)]) (F' := (205, [(0, .ref 83)], [.long ((w.2 83 12) <<< ((8 : Int32).toInt64 &&& 63)), .ref 83])) (M' := am_m168) (r := some (.int r45)) (S1 := (am_sh, hx, w.1, w.2)) rfl am_h168 rfl (ezM_byteAt (by omega) (w.1 83 8) w _ h_r45) ?_
        obtain ⟨w46, h_w46, hp⟩ := am_b_e hp
        refine am_Rn.run am_h171 3 (F' := (210, [(0, .ref 83)], [])) (S' := (am_sh, hx, w46.1, w46.2)) (by subst h_w46; rfl) ?_
        exact ezM_nextToken_J210 hd R (fun w => zM_nextToken_L161 n w) (fun w hp => ezM_nextToken_L161 hd R n w hp) w46 hp
      · exact ezM_nextToken_J210 hd R (fun w => zM_nextToken_L161 n w) (fun w hp => ezM_nextToken_L161 hd R n w hp) w hp
def zM_nextToken_J131 (k85 : zHM → Option (zHM)) (w : zHM) : Option (zHM) := am_b ((va_up w.1 83 (upd (w.1 83) 8 ((w.1 83 8) + 1)), w.2)) fun w56 => k85 w56
set_option maxRecDepth 20000 in
theorem ezM_nextToken_J131 {d : Nat} (hd : 2 ≤ d) (R : zHM) (k85 : zHM → Option (zHM)) (hk85 : ∀ (w : zHM), k85 w = some R → am_Rn 83 Xs am_P d 171 (85, [(0, .ref 83)], []) (am_sh, hx, w.1, w.2) (none, (am_sh, hx, R.1, R.2))) (w : zHM) (hp : zM_nextToken_J131 k85 w = some R) : am_Rn 83 Xs am_P d 171 (131, [(0, .ref 83)], []) (am_sh, hx, w.1, w.2) (none, (am_sh, hx, R.1, R.2)) := by
  obtain ⟨d, rfl⟩ : ∃ k, d = k + 1 := ⟨d - 1, by omega⟩
  unfold zM_nextToken_J131 at hp
  obtain ⟨w56, h_w56, hp⟩ := am_b_e hp
  refine am_Rn.run am_h171 7 (F' := (85, [(0, .ref 83)], [])) (S' := (am_sh, hx, w56.1, w56.2)) (by subst h_w56; rfl) ?_
  exact hk85 w56 hp
def zM_nextToken_L85 : Nat → zHM → Option (zHM)
  | 0, _ => none
  | n + 1, w => (zM_byteAt (w.1 83 8) w).bind fun r50 => am_b (zM_isDigit r50) fun r51 => if r51 = 0 then (some w) else (if (w.1 83 11) < 100000 then ((zM_byteAt (w.1 83 8) w).bind fun r54 => am_b ((va_up w.1 83 (upd (w.1 83) 11 (((10 * (w.1 83 11)) + r54) - 48)), w.2)) fun w55 => zM_nextToken_J131 (fun w => zM_nextToken_L85 n w) w55) else (zM_nextToken_J131 (fun w => zM_nextToken_L85 n w) w))
set_option maxRecDepth 20000 in
theorem ezM_nextToken_L85 {d : Nat} (hd : 2 ≤ d) (R : zHM) : ∀ (n : Nat) (w : zHM), zM_nextToken_L85 n w = some R → am_Rn 83 Xs am_P d 171 (85, [(0, .ref 83)], []) (am_sh, hx, w.1, w.2) (none, (am_sh, hx, R.1, R.2))
  | 0, _, hp => by cases hp
  | n + 1, w, hp => by
    obtain ⟨d, rfl⟩ : ∃ k, d = k + 1 := ⟨d - 1, by omega⟩
    unfold zM_nextToken_L85 at hp
    refine am_Rn.run am_h171 3 (F' := (90, [(0, .ref 83)], [.int (w.1 83 8), .ref 83])) (S' := (am_sh, hx, w.1, w.2)) rfl ?_
    obtain ⟨r50, h_r50, hp⟩ := am_bind hp
    refine am_Rn.call am_h171 (mj := 168) (As := [.ref 83, .int (w.1 83 8)]) (F' := (93, [(0, .ref 83)], [])) (M' := am_m168) (r := some (.int r50)) (S1 := (am_sh, hx, w.1, w.2)) rfl am_h168 rfl (ezM_byteAt (by omega) (w.1 83 8) w _ h_r50) ?_
    obtain ⟨r51, h_r51, hp⟩ := am_b_e hp
    refine am_Rn.call am_h171 (mj := 170) (As := [.int r50]) (F' := (96, [(0, .ref 83)], [])) (M' := am_m170) (r := some (.int r51)) (S1 := (am_sh, hx, w.1, w.2)) rfl am_h170 rfl (by subst h_r51; exact (ezM_isDigit (by omega) r50)) ?_
    refine am_Rn.ite am_h171 (c := r51 = 0) (t := 396) (f := 99) (lv := [(0, .ref 83)]) (st := []) (S' := (am_sh, hx, w.1, w.2)) rfl hp (fun hc52 hp => ?_) (fun hc52 hp => ?_)
    · cases hp
      exact am_Rn.ret am_h171 rfl
    · refine am_Rn.run am_h171 3 (F' := (105, [(0, .ref 83)], [.int 100000, .int (w.1 83 11)])) (S' := (am_sh, hx, w.1, w.2)) rfl ?_
      refine am_Rn.ite am_h171 (c := (w.1 83 11) < 100000) (t := 108) (f := 131) (lv := [(0, .ref 83)]) (st := []) (S' := (am_sh, hx, w.1, w.2)) rfl hp (fun hc53 hp => ?_) (fun hc53 hp => ?_)
      · refine am_Rn.run am_h171 8 (F' := (121, [(0, .ref 83)], [.int (w.1 83 8), .ref 83, .int (10 * (w.1 83 11)), .ref 83])) (S' := (am_sh, hx, w.1, w.2)) rfl ?_
        obtain ⟨r54, h_r54, hp⟩ := am_bind hp
        refine am_Rn.call am_h171 (mj := 168) (As := [.ref 83, .int (w.1 83 8)]) (F' := (124, [(0, .ref 83)], [.int (10 * (w.1 83 11)), .ref 83])) (M' := am_m168) (r := some (.int r54)) (S1 := (am_sh, hx, w.1, w.2)) rfl am_h168 rfl (ezM_byteAt (by omega) (w.1 83 8) w _ h_r54) ?_
        obtain ⟨w55, h_w55, hp⟩ := am_b_e hp
        refine am_Rn.run am_h171 4 (F' := (131, [(0, .ref 83)], [])) (S' := (am_sh, hx, w55.1, w55.2)) (by subst h_w55; rfl) ?_
        exact ezM_nextToken_J131 hd R (fun w => zM_nextToken_L85 n w) (fun w hp => ezM_nextToken_L85 hd R n w hp) w55 hp
      · exact ezM_nextToken_J131 hd R (fun w => zM_nextToken_L85 n w) (fun w hp => ezM_nextToken_L85 hd R n w hp) w hp
def zM_nextToken_L0 : Nat → zHM → Option (zHM)
  | 0, _ => none
  | n + 1, w => (zM_byteAt (w.1 83 8) w).bind fun r1 => if r1 = 32 then (zM_nextToken_J26 (fun w => zM_nextToken_L0 n w) w) else ((zM_byteAt (w.1 83 8) w).bind fun r4 => if r4 = 10 then (zM_nextToken_J26 (fun w => zM_nextToken_L0 n w) w) else (am_b ((va_up w.1 83 (upd (w.1 83) 9 (w.1 83 8)), w.2)) fun w6 => (zM_byteAt (w6.1 83 8) w6).bind fun r7 => if r7 < 0 then (am_b ((va_up w6.1 83 (upd (w6.1 83) 10 0), w6.2)) fun w9 => some w9) else (am_b (zM_isDigit r7) fun r10 => if r10 = 0 then (am_b (zM_isLetter r7) fun r12 => if r12 = 0 then (am_b ((va_up w6.1 83 (upd (w6.1 83) 8 ((w6.1 83 8) + 1)), w6.2)) fun w14 => if r7 = 60 then (zM_nextToken_J327 r7 w14) else (if r7 = 62 then (zM_nextToken_J327 r7 w14) else (if r7 = 61 then (zM_nextToken_J327 r7 w14) else (if r7 = 35 then (zM_nextToken_J327 r7 w14) else (if r7 = 43 then (zM_nextToken_J327 r7 w14) else (if r7 = 45 then (zM_nextToken_J327 r7 w14) else (if r7 = 42 then (zM_nextToken_J327 r7 w14) else (if r7 = 47 then (zM_nextToken_J327 r7 w14) else (if r7 = 44 then (zM_nextToken_J327 r7 w14) else (if r7 = 40 then (zM_nextToken_J327 r7 w14) else (if r7 = 41 then (zM_nextToken_J327 r7 w14) else (if r7 = 59 then (zM_nextToken_J327 r7 w14) else (zM_nextToken_J332 r7 0 w14))))))))))))) else (am_b ((va_up w6.1 83 (upd (w6.1 83) 10 2), w6.2)) fun w37 => am_b ((w37.1, va_up w37.2 83 (vp_updL (w37.2 83) 12 0))) fun w38 => zM_nextToken_L161 am_N w38)) else (am_b ((va_up w6.1 83 (upd (w6.1 83) 10 1), w6.2)) fun w48 => am_b ((va_up w48.1 83 (upd (w48.1 83) 11 0), w48.2)) fun w49 => zM_nextToken_L85 am_N w49))))
set_option maxRecDepth 20000 in
theorem ezM_nextToken_L0 {d : Nat} (hd : 2 ≤ d) (R : zHM) : ∀ (n : Nat) (w : zHM), zM_nextToken_L0 n w = some R → am_Rn 83 Xs am_P d 171 (0, [(0, .ref 83)], []) (am_sh, hx, w.1, w.2) (none, (am_sh, hx, R.1, R.2))
  | 0, _, hp => by cases hp
  | n + 1, w, hp => by
    obtain ⟨d, rfl⟩ : ∃ k, d = k + 1 := ⟨d - 1, by omega⟩
    unfold zM_nextToken_L0 at hp
    refine am_Rn.run am_h171 3 (F' := (5, [(0, .ref 83)], [.int (w.1 83 8), .ref 83])) (S' := (am_sh, hx, w.1, w.2)) rfl ?_
    obtain ⟨r1, h_r1, hp⟩ := am_bind hp
    refine am_Rn.call am_h171 (mj := 168) (As := [.ref 83, .int (w.1 83 8)]) (F' := (8, [(0, .ref 83)], [])) (M' := am_m168) (r := some (.int r1)) (S1 := (am_sh, hx, w.1, w.2)) rfl am_h168 rfl (ezM_byteAt (by omega) (w.1 83 8) w _ h_r1) ?_
    refine am_Rn.run am_h171 1 (F' := (10, [(0, .ref 83)], [.int 32, .int r1])) (S' := (am_sh, hx, w.1, w.2)) rfl ?_
    refine am_Rn.ite am_h171 (c := r1 = 32) (t := 26) (f := 13) (lv := [(0, .ref 83)]) (st := []) (S' := (am_sh, hx, w.1, w.2)) rfl hp (fun hc2 hp => ?_) (fun hc2 hp => ?_)
    · exact ezM_nextToken_J26 hd R (fun w => zM_nextToken_L0 n w) (fun w hp => ezM_nextToken_L0 hd R n w hp) w hp
    · refine am_Rn.run am_h171 3 (F' := (18, [(0, .ref 83)], [.int (w.1 83 8), .ref 83])) (S' := (am_sh, hx, w.1, w.2)) rfl ?_
      obtain ⟨r4, h_r4, hp⟩ := am_bind hp
      refine am_Rn.call am_h171 (mj := 168) (As := [.ref 83, .int (w.1 83 8)]) (F' := (21, [(0, .ref 83)], [])) (M' := am_m168) (r := some (.int r4)) (S1 := (am_sh, hx, w.1, w.2)) rfl am_h168 rfl (ezM_byteAt (by omega) (w.1 83 8) w _ h_r4) ?_
      refine am_Rn.run am_h171 1 (F' := (23, [(0, .ref 83)], [.int 10, .int r4])) (S' := (am_sh, hx, w.1, w.2)) rfl ?_
      refine am_Rn.ite am_h171 (c := r4 = 10) (t := 26) (f := 39) (lv := [(0, .ref 83)]) (st := []) (S' := (am_sh, hx, w.1, w.2)) rfl hp (fun hc5 hp => ?_) (fun hc5 hp => ?_)
      · exact ezM_nextToken_J26 hd R (fun w => zM_nextToken_L0 n w) (fun w hp => ezM_nextToken_L0 hd R n w hp) w hp
      · obtain ⟨w6, h_w6, hp⟩ := am_b_e hp
        refine am_Rn.run am_h171 7 (F' := (52, [(0, .ref 83)], [.int (w6.1 83 8), .ref 83])) (S' := (am_sh, hx, w6.1, w6.2)) (by subst h_w6; rfl) ?_
        obtain ⟨r7, h_r7, hp⟩ := am_bind hp
        refine am_Rn.call am_h171 (mj := 168) (As := [.ref 83, .int (w6.1 83 8)]) (F' := (55, [(0, .ref 83)], [])) (M' := am_m168) (r := some (.int r7)) (S1 := (am_sh, hx, w6.1, w6.2)) rfl am_h168 rfl (ezM_byteAt (by omega) (w6.1 83 8) w6 _ h_r7) ?_
        refine am_Rn.run am_h171 2 (F' := (57, [(1, .int r7), (0, .ref 83)], [.int r7])) (S' := (am_sh, hx, w6.1, w6.2)) rfl ?_
        refine am_Rn.ite am_h171 (c := r7 < 0) (t := 60) (f := 68) (lv := [(1, .int r7), (0, .ref 83)]) (st := []) (S' := (am_sh, hx, w6.1, w6.2)) rfl hp (fun hc8 hp => ?_) (fun hc8 hp => ?_)
        · obtain ⟨w9, h_w9, hp⟩ := am_b_e hp
          refine am_Rn.run am_h171 4 (F' := (396, [(1, .int r7), (0, .ref 83)], [])) (S' := (am_sh, hx, w9.1, w9.2)) (by subst h_w9; rfl) ?_
          cases hp
          exact am_Rn.ret am_h171 rfl
        · refine am_Rn.run am_h171 1 (F' := (69, [(1, .int r7), (0, .ref 83)], [.int r7])) (S' := (am_sh, hx, w6.1, w6.2)) rfl ?_
          obtain ⟨r10, h_r10, hp⟩ := am_b_e hp
          refine am_Rn.call am_h171 (mj := 170) (As := [.int r7]) (F' := (72, [(1, .int r7), (0, .ref 83)], [])) (M' := am_m170) (r := some (.int r10)) (S1 := (am_sh, hx, w6.1, w6.2)) rfl am_h170 rfl (by subst h_r10; exact (ezM_isDigit (by omega) r7)) ?_
          refine am_Rn.ite am_h171 (c := r10 = 0) (t := 144) (f := 75) (lv := [(1, .int r7), (0, .ref 83)]) (st := []) (S' := (am_sh, hx, w6.1, w6.2)) rfl hp (fun hc11 hp => ?_) (fun hc11 hp => ?_)
          · refine am_Rn.run am_h171 1 (F' := (145, [(1, .int r7), (0, .ref 83)], [.int r7])) (S' := (am_sh, hx, w6.1, w6.2)) rfl ?_
            obtain ⟨r12, h_r12, hp⟩ := am_b_e hp
            refine am_Rn.call am_h171 (mj := 169) (As := [.int r7]) (F' := (148, [(1, .int r7), (0, .ref 83)], [])) (M' := am_m169) (r := some (.int r12)) (S1 := (am_sh, hx, w6.1, w6.2)) rfl am_h169 rfl (by subst h_r12; exact (ezM_isLetter (by omega) r7)) ?_
            refine am_Rn.ite am_h171 (c := r12 = 0) (t := 245) (f := 151) (lv := [(1, .int r7), (0, .ref 83)]) (st := []) (S' := (am_sh, hx, w6.1, w6.2)) rfl hp (fun hc13 hp => ?_) (fun hc13 hp => ?_)
            · obtain ⟨w14, h_w14, hp⟩ := am_b_e hp
              refine am_Rn.run am_h171 8 (F' := (258, [(1, .int r7), (0, .ref 83)], [.int 60, .int r7])) (S' := (am_sh, hx, w14.1, w14.2)) (by subst h_w14; rfl) ?_
              refine am_Rn.ite am_h171 (c := r7 = 60) (t := 327) (f := 261) (lv := [(1, .int r7), (0, .ref 83)]) (st := []) (S' := (am_sh, hx, w14.1, w14.2)) rfl hp (fun hc15 hp => ?_) (fun hc15 hp => ?_)
              · refine am_Rn.sub [1, 0] rfl rfl ?_
                exact ezM_nextToken_J327 hd R r7 w14 hp
              · refine am_Rn.run am_h171 2 (F' := (264, [(1, .int r7), (0, .ref 83)], [.int 62, .int r7])) (S' := (am_sh, hx, w14.1, w14.2)) rfl ?_
                refine am_Rn.ite am_h171 (c := r7 = 62) (t := 327) (f := 267) (lv := [(1, .int r7), (0, .ref 83)]) (st := []) (S' := (am_sh, hx, w14.1, w14.2)) rfl hp (fun hc26 hp => ?_) (fun hc26 hp => ?_)
                · refine am_Rn.sub [1, 0] rfl rfl ?_
                  exact ezM_nextToken_J327 hd R r7 w14 hp
                · refine am_Rn.run am_h171 2 (F' := (270, [(1, .int r7), (0, .ref 83)], [.int 61, .int r7])) (S' := (am_sh, hx, w14.1, w14.2)) rfl ?_
                  refine am_Rn.ite am_h171 (c := r7 = 61) (t := 327) (f := 273) (lv := [(1, .int r7), (0, .ref 83)]) (st := []) (S' := (am_sh, hx, w14.1, w14.2)) rfl hp (fun hc27 hp => ?_) (fun hc27 hp => ?_)
                  · refine am_Rn.sub [1, 0] rfl rfl ?_
                    exact ezM_nextToken_J327 hd R r7 w14 hp
                  · refine am_Rn.run am_h171 2 (F' := (276, [(1, .int r7), (0, .ref 83)], [.int 35, .int r7])) (S' := (am_sh, hx, w14.1, w14.2)) rfl ?_
                    refine am_Rn.ite am_h171 (c := r7 = 35) (t := 327) (f := 279) (lv := [(1, .int r7), (0, .ref 83)]) (st := []) (S' := (am_sh, hx, w14.1, w14.2)) rfl hp (fun hc28 hp => ?_) (fun hc28 hp => ?_)
                    · refine am_Rn.sub [1, 0] rfl rfl ?_
                      exact ezM_nextToken_J327 hd R r7 w14 hp
                    · refine am_Rn.run am_h171 2 (F' := (282, [(1, .int r7), (0, .ref 83)], [.int 43, .int r7])) (S' := (am_sh, hx, w14.1, w14.2)) rfl ?_
                      refine am_Rn.ite am_h171 (c := r7 = 43) (t := 327) (f := 285) (lv := [(1, .int r7), (0, .ref 83)]) (st := []) (S' := (am_sh, hx, w14.1, w14.2)) rfl hp (fun hc29 hp => ?_) (fun hc29 hp => ?_)
                      · refine am_Rn.sub [1, 0] rfl rfl ?_
                        exact ezM_nextToken_J327 hd R r7 w14 hp
                      · refine am_Rn.run am_h171 2 (F' := (288, [(1, .int r7), (0, .ref 83)], [.int 45, .int r7])) (S' := (am_sh, hx, w14.1, w14.2)) rfl ?_
                        refine am_Rn.ite am_h171 (c := r7 = 45) (t := 327) (f := 291) (lv := [(1, .int r7), (0, .ref 83)]) (st := []) (S' := (am_sh, hx, w14.1, w14.2)) rfl hp (fun hc30 hp => ?_) (fun hc30 hp => ?_)
                        · refine am_Rn.sub [1, 0] rfl rfl ?_
                          exact ezM_nextToken_J327 hd R r7 w14 hp
                        · refine am_Rn.run am_h171 2 (F' := (294, [(1, .int r7), (0, .ref 83)], [.int 42, .int r7])) (S' := (am_sh, hx, w14.1, w14.2)) rfl ?_
                          refine am_Rn.ite am_h171 (c := r7 = 42) (t := 327) (f := 297) (lv := [(1, .int r7), (0, .ref 83)]) (st := []) (S' := (am_sh, hx, w14.1, w14.2)) rfl hp (fun hc31 hp => ?_) (fun hc31 hp => ?_)
                          · refine am_Rn.sub [1, 0] rfl rfl ?_
                            exact ezM_nextToken_J327 hd R r7 w14 hp
                          · refine am_Rn.run am_h171 2 (F' := (300, [(1, .int r7), (0, .ref 83)], [.int 47, .int r7])) (S' := (am_sh, hx, w14.1, w14.2)) rfl ?_
                            refine am_Rn.ite am_h171 (c := r7 = 47) (t := 327) (f := 303) (lv := [(1, .int r7), (0, .ref 83)]) (st := []) (S' := (am_sh, hx, w14.1, w14.2)) rfl hp (fun hc32 hp => ?_) (fun hc32 hp => ?_)
                            · refine am_Rn.sub [1, 0] rfl rfl ?_
                              exact ezM_nextToken_J327 hd R r7 w14 hp
                            · refine am_Rn.run am_h171 2 (F' := (306, [(1, .int r7), (0, .ref 83)], [.int 44, .int r7])) (S' := (am_sh, hx, w14.1, w14.2)) rfl ?_
                              refine am_Rn.ite am_h171 (c := r7 = 44) (t := 327) (f := 309) (lv := [(1, .int r7), (0, .ref 83)]) (st := []) (S' := (am_sh, hx, w14.1, w14.2)) rfl hp (fun hc33 hp => ?_) (fun hc33 hp => ?_)
                              · refine am_Rn.sub [1, 0] rfl rfl ?_
                                exact ezM_nextToken_J327 hd R r7 w14 hp
                              · refine am_Rn.run am_h171 2 (F' := (312, [(1, .int r7), (0, .ref 83)], [.int 40, .int r7])) (S' := (am_sh, hx, w14.1, w14.2)) rfl ?_
                                refine am_Rn.ite am_h171 (c := r7 = 40) (t := 327) (f := 315) (lv := [(1, .int r7), (0, .ref 83)]) (st := []) (S' := (am_sh, hx, w14.1, w14.2)) rfl hp (fun hc34 hp => ?_) (fun hc34 hp => ?_)
                                · refine am_Rn.sub [1, 0] rfl rfl ?_
                                  exact ezM_nextToken_J327 hd R r7 w14 hp
                                · refine am_Rn.run am_h171 2 (F' := (318, [(1, .int r7), (0, .ref 83)], [.int 41, .int r7])) (S' := (am_sh, hx, w14.1, w14.2)) rfl ?_
                                  refine am_Rn.ite am_h171 (c := r7 = 41) (t := 327) (f := 321) (lv := [(1, .int r7), (0, .ref 83)]) (st := []) (S' := (am_sh, hx, w14.1, w14.2)) rfl hp (fun hc35 hp => ?_) (fun hc35 hp => ?_)
                                  · refine am_Rn.sub [1, 0] rfl rfl ?_
                                    exact ezM_nextToken_J327 hd R r7 w14 hp
                                  · refine am_Rn.run am_h171 2 (F' := (324, [(1, .int r7), (0, .ref 83)], [.int 59, .int r7])) (S' := (am_sh, hx, w14.1, w14.2)) rfl ?_
                                    refine am_Rn.ite am_h171 (c := r7 = 59) (t := 327) (f := 331) (lv := [(1, .int r7), (0, .ref 83)]) (st := []) (S' := (am_sh, hx, w14.1, w14.2)) rfl hp (fun hc36 hp => ?_) (fun hc36 hp => ?_)
                                    · refine am_Rn.sub [1, 0] rfl rfl ?_
                                      exact ezM_nextToken_J327 hd R r7 w14 hp
                                    · refine am_Rn.run am_h171 1 (F' := (332, [(1, .int r7), (0, .ref 83)], [.int 0])) (S' := (am_sh, hx, w14.1, w14.2)) rfl ?_
                                      refine am_Rn.sub [1, 0] rfl rfl ?_
                                      exact ezM_nextToken_J332 hd R r7 0 w14 hp
            · obtain ⟨w37, h_w37, hp⟩ := am_b_e hp
              obtain ⟨w38, h_w38, hp⟩ := am_b_e hp
              refine am_Rn.run am_h171 6 (F' := (161, [(1, .int r7), (0, .ref 83)], [])) (S' := (am_sh, hx, w38.1, w38.2)) (by subst h_w37; subst h_w38; rfl) ?_
              refine am_Rn.sub [1] rfl rfl ?_
              exact ezM_nextToken_L161 hd R am_N w38 hp
          · obtain ⟨w48, h_w48, hp⟩ := am_b_e hp
            obtain ⟨w49, h_w49, hp⟩ := am_b_e hp
            refine am_Rn.run am_h171 6 (F' := (85, [(1, .int r7), (0, .ref 83)], [])) (S' := (am_sh, hx, w49.1, w49.2)) (by subst h_w48; subst h_w49; rfl) ?_
            refine am_Rn.sub [1] rfl rfl ?_
            exact ezM_nextToken_L85 hd R am_N w49 hp
def zM_nextToken (w : zHM) : Option (zHM) := zM_nextToken_L0 am_N w
set_option maxRecDepth 20000 in
theorem ezM_nextToken {d : Nat} (hd : 2 ≤ d) (w : zHM) (R : zHM) (hp : zM_nextToken w = some R) : am_Ev 83 Xs am_P d 171 [.ref 83] (am_sh, hx, w.1, w.2) (none, (am_sh, hx, R.1, R.2)) := by
  obtain ⟨d, rfl⟩ : ∃ k, d = k + 1 := ⟨d - 1, by omega⟩
  unfold zM_nextToken at hp
  show am_Rn 83 Xs am_P _ 171 (0, [(0, .ref 83)], []) _ _
  exact ezM_nextToken_L0 hd R am_N w hp
/-- SixHandsModel.w3(III)J [] -/
def zM_w3 (v0 : Int32) (v1 : Int32) (v2 : Int32) : Int64 := ((((v0.toInt64) <<< ((8 : Int32).toInt64 &&& 63)) ||| (v1.toInt64)) <<< ((8 : Int32).toInt64 &&& 63)) ||| (v2.toInt64)
set_option maxRecDepth 20000 in
theorem ezM_w3 {d : Nat} (hd : 0 ≤ d) (v0 : Int32) (v1 : Int32) (v2 : Int32) : am_Ev 83 Xs am_P d 172 [.int v0, .int v1, .int v2] S (some (.long ((zM_w3 v0 v1 v2))), S) := by
  obtain ⟨R, hp⟩ : ∃ R, zM_w3 v0 v1 v2 = R := ⟨_, rfl⟩
  rw [hp]
  unfold zM_w3 at hp
  show am_Rn 83 Xs am_P _ 172 (0, [(0, .int v0), (1, .int v1), (2, .int v2)], []) _ _
  refine am_Rn.run am_h172 12 (F' := (14, [(0, .int v0), (1, .int v1), (2, .int v2)], [.long (((((v0.toInt64) <<< ((8 : Int32).toInt64 &&& 63)) ||| (v1.toInt64)) <<< ((8 : Int32).toInt64 &&& 63)) ||| (v2.toInt64))])) (S' := S) rfl ?_
  subst hp
  exact am_Rn.ret am_h172 rfl
/-- SixHandsModel.isWord(J)Z [83] -/
def zM_isWord (v1 : Int64) (w : zHM) : Int32 := if (w.1 83 10) = 2 then (if (lg_cmp (w.2 83 12) v1) = 0 then (1) else (0)) else (0)
set_option maxRecDepth 20000 in
theorem ezM_isWord {d : Nat} (hd : 0 ≤ d) (v1 : Int64) (w : zHM) : am_Ev 83 Xs am_P d 176 [.ref 83, .long v1] (am_sh, hx, w.1, w.2) (some (.int ((zM_isWord v1 w))), (am_sh, hx, w.1, w.2)) := by
  obtain ⟨R, hp⟩ : ∃ R, zM_isWord v1 w = R := ⟨_, rfl⟩
  rw [hp]
  unfold zM_isWord at hp
  show am_Rn 83 Xs am_P _ 176 (0, [(0, .ref 83), (1, .long v1)], []) _ _
  refine am_Rn.run am_h176 3 (F' := (5, [(0, .ref 83), (1, .long v1)], [.int 2, .int (w.1 83 10)])) (S' := (am_sh, hx, w.1, w.2)) rfl ?_
  refine am_Rn.ite am_h176 (c := (w.1 83 10) = 2) (t := 8) (f := 21) (lv := [(0, .ref 83), (1, .long v1)]) (st := []) (S' := (am_sh, hx, w.1, w.2)) rfl hp (fun hc1 hp => ?_) (fun hc1 hp => ?_)
  · refine am_Rn.run am_h176 4 (F' := (14, [(0, .ref 83), (1, .long v1)], [.int (lg_cmp (w.2 83 12) v1)])) (S' := (am_sh, hx, w.1, w.2)) rfl ?_
    refine am_Rn.ite am_h176 (c := (lg_cmp (w.2 83 12) v1) = 0) (t := 17) (f := 21) (lv := [(0, .ref 83), (1, .long v1)]) (st := []) (S' := (am_sh, hx, w.1, w.2)) rfl hp (fun hc2 hp => ?_) (fun hc2 hp => ?_)
    · refine am_Rn.run am_h176 2 (F' := (22, [(0, .ref 83), (1, .long v1)], [.int 1])) (S' := (am_sh, hx, w.1, w.2)) rfl ?_
      subst hp
      exact am_Rn.ret am_h176 rfl
    · refine am_Rn.run am_h176 1 (F' := (22, [(0, .ref 83), (1, .long v1)], [.int 0])) (S' := (am_sh, hx, w.1, w.2)) rfl ?_
      subst hp
      exact am_Rn.ret am_h176 rfl
  · refine am_Rn.run am_h176 1 (F' := (22, [(0, .ref 83), (1, .long v1)], [.int 0])) (S' := (am_sh, hx, w.1, w.2)) rfl ?_
    subst hp
    exact am_Rn.ret am_h176 rfl
/-- SixHandsModel.w4(IIII)J [] -/
def zM_w4 (v0 : Int32) (v1 : Int32) (v2 : Int32) (v3 : Int32) : Int64 := am_b (zM_w3 v0 v1 v2) fun r1 => (r1 <<< ((8 : Int32).toInt64 &&& 63)) ||| (v3.toInt64)
set_option maxRecDepth 20000 in
theorem ezM_w4 {d : Nat} (hd : 1 ≤ d) (v0 : Int32) (v1 : Int32) (v2 : Int32) (v3 : Int32) : am_Ev 83 Xs am_P d 174 [.int v0, .int v1, .int v2, .int v3] S (some (.long ((zM_w4 v0 v1 v2 v3))), S) := by
  obtain ⟨R, hp⟩ : ∃ R, zM_w4 v0 v1 v2 v3 = R := ⟨_, rfl⟩
  rw [hp]
  obtain ⟨d, rfl⟩ : ∃ k, d = k + 1 := ⟨d - 1, by omega⟩
  unfold zM_w4 at hp
  show am_Rn 83 Xs am_P _ 174 (0, [(0, .int v0), (1, .int v1), (2, .int v2), (3, .int v3)], []) _ _
  refine am_Rn.run am_h174 3 (F' := (3, [(0, .int v0), (1, .int v1), (2, .int v2), (3, .int v3)], [.int v2, .int v1, .int v0])) (S' := S) rfl ?_
  obtain ⟨r1, h_r1, hp⟩ := am_b_e hp
  refine am_Rn.call am_h174 (mj := 172) (As := [.int v0, .int v1, .int v2]) (F' := (6, [(0, .int v0), (1, .int v1), (2, .int v2), (3, .int v3)], [])) (M' := am_m172) (r := some (.long r1)) (S1 := S) rfl am_h172 rfl (by subst h_r1; exact (ezM_w3 (by omega) v0 v1 v2)) ?_
  refine am_Rn.run am_h174 5 (F' := (12, [(0, .int v0), (1, .int v1), (2, .int v2), (3, .int v3)], [.long ((r1 <<< ((8 : Int32).toInt64 &&& 63)) ||| (v3.toInt64))])) (S' := S) rfl ?_
  subst hp
  exact am_Rn.ret am_h174 rfl
/-- SixHandsModel.w5(IIIII)J [] -/
def zM_w5 (v0 : Int32) (v1 : Int32) (v2 : Int32) (v3 : Int32) (v4 : Int32) : Int64 := am_b (zM_w3 v0 v1 v2) fun r1 => (((r1 <<< ((8 : Int32).toInt64 &&& 63)) ||| (v3.toInt64)) <<< ((8 : Int32).toInt64 &&& 63)) ||| (v4.toInt64)
set_option maxRecDepth 20000 in
theorem ezM_w5 {d : Nat} (hd : 1 ≤ d) (v0 : Int32) (v1 : Int32) (v2 : Int32) (v3 : Int32) (v4 : Int32) : am_Ev 83 Xs am_P d 173 [.int v0, .int v1, .int v2, .int v3, .int v4] S (some (.long ((zM_w5 v0 v1 v2 v3 v4))), S) := by
  obtain ⟨R, hp⟩ : ∃ R, zM_w5 v0 v1 v2 v3 v4 = R := ⟨_, rfl⟩
  rw [hp]
  obtain ⟨d, rfl⟩ : ∃ k, d = k + 1 := ⟨d - 1, by omega⟩
  unfold zM_w5 at hp
  show am_Rn 83 Xs am_P _ 173 (0, [(0, .int v0), (1, .int v1), (2, .int v2), (3, .int v3), (4, .int v4)], []) _ _
  refine am_Rn.run am_h173 3 (F' := (3, [(0, .int v0), (1, .int v1), (2, .int v2), (3, .int v3), (4, .int v4)], [.int v2, .int v1, .int v0])) (S' := S) rfl ?_
  obtain ⟨r1, h_r1, hp⟩ := am_b_e hp
  refine am_Rn.call am_h173 (mj := 172) (As := [.int v0, .int v1, .int v2]) (F' := (6, [(0, .int v0), (1, .int v1), (2, .int v2), (3, .int v3), (4, .int v4)], [])) (M' := am_m172) (r := some (.long r1)) (S1 := S) rfl am_h172 rfl (by subst h_r1; exact (ezM_w3 (by omega) v0 v1 v2)) ?_
  refine am_Rn.run am_h173 10 (F' := (19, [(0, .int v0), (1, .int v1), (2, .int v2), (3, .int v3), (4, .int v4)], [.long ((((r1 <<< ((8 : Int32).toInt64 &&& 63)) ||| (v3.toInt64)) <<< ((8 : Int32).toInt64 &&& 63)) ||| (v4.toInt64))])) (S' := S) rfl ?_
  subst hp
  exact am_Rn.ret am_h173 rfl
/-- SixHandsModel.sortOf()I [83] -/
def zM_sortOf_J123 (w : zHM) : Int32 := am_b (zM_w3 104 105 116) fun r18 => am_b (zM_isWord r18 w) fun r19 => if r19 = 0 then (am_b (zM_w4 98 101 97 116) fun r21 => am_b (zM_isWord r21 w) fun r22 => if r22 = 0 then ((-1)) else (7)) else (6)
set_option maxRecDepth 20000 in
theorem ezM_sortOf_J123 {d : Nat} (hd : 2 ≤ d) (R : Int32) (w : zHM) (hp : zM_sortOf_J123 w = R) : am_Rn 83 Xs am_P d 191 (123, [(0, .ref 83)], []) (am_sh, hx, w.1, w.2) (some (.int R), (am_sh, hx, w.1, w.2)) := by
  obtain ⟨d, rfl⟩ : ∃ k, d = k + 1 := ⟨d - 1, by omega⟩
  unfold zM_sortOf_J123 at hp
  refine am_Rn.run am_h191 4 (F' := (130, [(0, .ref 83)], [.int 116, .int 105, .int 104, .ref 83])) (S' := (am_sh, hx, w.1, w.2)) rfl ?_
  obtain ⟨r18, h_r18, hp⟩ := am_b_e hp
  refine am_Rn.call am_h191 (mj := 172) (As := [.int 104, .int 105, .int 116]) (F' := (133, [(0, .ref 83)], [.ref 83])) (M' := am_m172) (r := some (.long r18)) (S1 := (am_sh, hx, w.1, w.2)) rfl am_h172 rfl (by subst h_r18; exact (ezM_w3 (by omega) 104 105 116)) ?_
  obtain ⟨r19, h_r19, hp⟩ := am_b_e hp
  refine am_Rn.call am_h191 (mj := 176) (As := [.ref 83, .long r18]) (F' := (136, [(0, .ref 83)], [])) (M' := am_m176) (r := some (.int r19)) (S1 := (am_sh, hx, w.1, w.2)) rfl am_h176 rfl (by subst h_r19; exact (ezM_isWord (by omega) r18 w)) ?_
  refine am_Rn.ite am_h191 (c := r19 = 0) (t := 144) (f := 139) (lv := [(0, .ref 83)]) (st := []) (S' := (am_sh, hx, w.1, w.2)) rfl hp (fun hc20 hp => ?_) (fun hc20 hp => ?_)
  · refine am_Rn.run am_h191 5 (F' := (153, [(0, .ref 83)], [.int 116, .int 97, .int 101, .int 98, .ref 83])) (S' := (am_sh, hx, w.1, w.2)) rfl ?_
    obtain ⟨r21, h_r21, hp⟩ := am_b_e hp
    refine am_Rn.call am_h191 (mj := 174) (As := [.int 98, .int 101, .int 97, .int 116]) (F' := (156, [(0, .ref 83)], [.ref 83])) (M' := am_m174) (r := some (.long r21)) (S1 := (am_sh, hx, w.1, w.2)) rfl am_h174 rfl (by subst h_r21; exact (ezM_w4 (by omega) 98 101 97 116)) ?_
    obtain ⟨r22, h_r22, hp⟩ := am_b_e hp
    refine am_Rn.call am_h191 (mj := 176) (As := [.ref 83, .long r21]) (F' := (159, [(0, .ref 83)], [])) (M' := am_m176) (r := some (.int r22)) (S1 := (am_sh, hx, w.1, w.2)) rfl am_h176 rfl (by subst h_r22; exact (ezM_isWord (by omega) r21 w)) ?_
    refine am_Rn.ite am_h191 (c := r22 = 0) (t := 167) (f := 162) (lv := [(0, .ref 83)]) (st := []) (S' := (am_sh, hx, w.1, w.2)) rfl hp (fun hc23 hp => ?_) (fun hc23 hp => ?_)
    · refine am_Rn.run am_h191 1 (F' := (168, [(0, .ref 83)], [.int (-1)])) (S' := (am_sh, hx, w.1, w.2)) rfl ?_
      subst hp
      exact am_Rn.ret am_h191 rfl
    · refine am_Rn.run am_h191 2 (F' := (168, [(0, .ref 83)], [.int 7])) (S' := (am_sh, hx, w.1, w.2)) rfl ?_
      subst hp
      exact am_Rn.ret am_h191 rfl
  · refine am_Rn.run am_h191 2 (F' := (168, [(0, .ref 83)], [.int 6])) (S' := (am_sh, hx, w.1, w.2)) rfl ?_
    subst hp
    exact am_Rn.ret am_h191 rfl
def zM_sortOf (w : zHM) : Int32 := am_b (zM_w3 109 97 121) fun r1 => am_b (zM_isWord r1 w) fun r2 => if r2 = 0 then (am_b (zM_w4 112 97 115 115) fun r4 => am_b (zM_isWord r4 w) fun r5 => if r5 = 0 then (am_b (zM_w5 115 104 111 119 115) fun r7 => am_b (zM_isWord r7 w) fun r8 => if r8 = 0 then (am_b (zM_w5 101 110 116 101 114) fun r10 => am_b (zM_isWord r10 w) fun r11 => if r11 = 0 then (am_b (zM_w4 101 120 105 116) fun r13 => am_b (zM_isWord r13 w) fun r14 => if r14 = 0 then (if (w.1 83 10) = 2 then (if (lg_cmp (w.2 83 12) 26479) = 0 then (5) else (zM_sortOf_J123 w)) else (zM_sortOf_J123 w)) else (4)) else (3)) else (2)) else (1)) else (0)
set_option maxRecDepth 20000 in
theorem ezM_sortOf {d : Nat} (hd : 2 ≤ d) (w : zHM) : am_Ev 83 Xs am_P d 191 [.ref 83] (am_sh, hx, w.1, w.2) (some (.int ((zM_sortOf w))), (am_sh, hx, w.1, w.2)) := by
  obtain ⟨R, hp⟩ : ∃ R, zM_sortOf w = R := ⟨_, rfl⟩
  rw [hp]
  obtain ⟨d, rfl⟩ : ∃ k, d = k + 1 := ⟨d - 1, by omega⟩
  unfold zM_sortOf at hp
  show am_Rn 83 Xs am_P _ 191 (0, [(0, .ref 83)], []) _ _
  refine am_Rn.run am_h191 4 (F' := (7, [(0, .ref 83)], [.int 121, .int 97, .int 109, .ref 83])) (S' := (am_sh, hx, w.1, w.2)) rfl ?_
  obtain ⟨r1, h_r1, hp⟩ := am_b_e hp
  refine am_Rn.call am_h191 (mj := 172) (As := [.int 109, .int 97, .int 121]) (F' := (10, [(0, .ref 83)], [.ref 83])) (M' := am_m172) (r := some (.long r1)) (S1 := (am_sh, hx, w.1, w.2)) rfl am_h172 rfl (by subst h_r1; exact (ezM_w3 (by omega) 109 97 121)) ?_
  obtain ⟨r2, h_r2, hp⟩ := am_b_e hp
  refine am_Rn.call am_h191 (mj := 176) (As := [.ref 83, .long r1]) (F' := (13, [(0, .ref 83)], [])) (M' := am_m176) (r := some (.int r2)) (S1 := (am_sh, hx, w.1, w.2)) rfl am_h176 rfl (by subst h_r2; exact (ezM_isWord (by omega) r1 w)) ?_
  refine am_Rn.ite am_h191 (c := r2 = 0) (t := 18) (f := 16) (lv := [(0, .ref 83)]) (st := []) (S' := (am_sh, hx, w.1, w.2)) rfl hp (fun hc3 hp => ?_) (fun hc3 hp => ?_)
  · refine am_Rn.run am_h191 5 (F' := (27, [(0, .ref 83)], [.int 115, .int 115, .int 97, .int 112, .ref 83])) (S' := (am_sh, hx, w.1, w.2)) rfl ?_
    obtain ⟨r4, h_r4, hp⟩ := am_b_e hp
    refine am_Rn.call am_h191 (mj := 174) (As := [.int 112, .int 97, .int 115, .int 115]) (F' := (30, [(0, .ref 83)], [.ref 83])) (M' := am_m174) (r := some (.long r4)) (S1 := (am_sh, hx, w.1, w.2)) rfl am_h174 rfl (by subst h_r4; exact (ezM_w4 (by omega) 112 97 115 115)) ?_
    obtain ⟨r5, h_r5, hp⟩ := am_b_e hp
    refine am_Rn.call am_h191 (mj := 176) (As := [.ref 83, .long r4]) (F' := (33, [(0, .ref 83)], [])) (M' := am_m176) (r := some (.int r5)) (S1 := (am_sh, hx, w.1, w.2)) rfl am_h176 rfl (by subst h_r5; exact (ezM_isWord (by omega) r4 w)) ?_
    refine am_Rn.ite am_h191 (c := r5 = 0) (t := 38) (f := 36) (lv := [(0, .ref 83)]) (st := []) (S' := (am_sh, hx, w.1, w.2)) rfl hp (fun hc6 hp => ?_) (fun hc6 hp => ?_)
    · refine am_Rn.run am_h191 6 (F' := (49, [(0, .ref 83)], [.int 115, .int 119, .int 111, .int 104, .int 115, .ref 83])) (S' := (am_sh, hx, w.1, w.2)) rfl ?_
      obtain ⟨r7, h_r7, hp⟩ := am_b_e hp
      refine am_Rn.call am_h191 (mj := 173) (As := [.int 115, .int 104, .int 111, .int 119, .int 115]) (F' := (52, [(0, .ref 83)], [.ref 83])) (M' := am_m173) (r := some (.long r7)) (S1 := (am_sh, hx, w.1, w.2)) rfl am_h173 rfl (by subst h_r7; exact (ezM_w5 (by omega) 115 104 111 119 115)) ?_
      obtain ⟨r8, h_r8, hp⟩ := am_b_e hp
      refine am_Rn.call am_h191 (mj := 176) (As := [.ref 83, .long r7]) (F' := (55, [(0, .ref 83)], [])) (M' := am_m176) (r := some (.int r8)) (S1 := (am_sh, hx, w.1, w.2)) rfl am_h176 rfl (by subst h_r8; exact (ezM_isWord (by omega) r7 w)) ?_
      refine am_Rn.ite am_h191 (c := r8 = 0) (t := 60) (f := 58) (lv := [(0, .ref 83)]) (st := []) (S' := (am_sh, hx, w.1, w.2)) rfl hp (fun hc9 hp => ?_) (fun hc9 hp => ?_)
      · refine am_Rn.run am_h191 6 (F' := (71, [(0, .ref 83)], [.int 114, .int 101, .int 116, .int 110, .int 101, .ref 83])) (S' := (am_sh, hx, w.1, w.2)) rfl ?_
        obtain ⟨r10, h_r10, hp⟩ := am_b_e hp
        refine am_Rn.call am_h191 (mj := 173) (As := [.int 101, .int 110, .int 116, .int 101, .int 114]) (F' := (74, [(0, .ref 83)], [.ref 83])) (M' := am_m173) (r := some (.long r10)) (S1 := (am_sh, hx, w.1, w.2)) rfl am_h173 rfl (by subst h_r10; exact (ezM_w5 (by omega) 101 110 116 101 114)) ?_
        obtain ⟨r11, h_r11, hp⟩ := am_b_e hp
        refine am_Rn.call am_h191 (mj := 176) (As := [.ref 83, .long r10]) (F' := (77, [(0, .ref 83)], [])) (M' := am_m176) (r := some (.int r11)) (S1 := (am_sh, hx, w.1, w.2)) rfl am_h176 rfl (by subst h_r11; exact (ezM_isWord (by omega) r10 w)) ?_
        refine am_Rn.ite am_h191 (c := r11 = 0) (t := 82) (f := 80) (lv := [(0, .ref 83)]) (st := []) (S' := (am_sh, hx, w.1, w.2)) rfl hp (fun hc12 hp => ?_) (fun hc12 hp => ?_)
        · refine am_Rn.run am_h191 5 (F' := (91, [(0, .ref 83)], [.int 116, .int 105, .int 120, .int 101, .ref 83])) (S' := (am_sh, hx, w.1, w.2)) rfl ?_
          obtain ⟨r13, h_r13, hp⟩ := am_b_e hp
          refine am_Rn.call am_h191 (mj := 174) (As := [.int 101, .int 120, .int 105, .int 116]) (F' := (94, [(0, .ref 83)], [.ref 83])) (M' := am_m174) (r := some (.long r13)) (S1 := (am_sh, hx, w.1, w.2)) rfl am_h174 rfl (by subst h_r13; exact (ezM_w4 (by omega) 101 120 105 116)) ?_
          obtain ⟨r14, h_r14, hp⟩ := am_b_e hp
          refine am_Rn.call am_h191 (mj := 176) (As := [.ref 83, .long r13]) (F' := (97, [(0, .ref 83)], [])) (M' := am_m176) (r := some (.int r14)) (S1 := (am_sh, hx, w.1, w.2)) rfl am_h176 rfl (by subst h_r14; exact (ezM_isWord (by omega) r13 w)) ?_
          refine am_Rn.ite am_h191 (c := r14 = 0) (t := 102) (f := 100) (lv := [(0, .ref 83)]) (st := []) (S' := (am_sh, hx, w.1, w.2)) rfl hp (fun hc15 hp => ?_) (fun hc15 hp => ?_)
          · refine am_Rn.run am_h191 3 (F' := (107, [(0, .ref 83)], [.int 2, .int (w.1 83 10)])) (S' := (am_sh, hx, w.1, w.2)) rfl ?_
            refine am_Rn.ite am_h191 (c := (w.1 83 10) = 2) (t := 110) (f := 123) (lv := [(0, .ref 83)]) (st := []) (S' := (am_sh, hx, w.1, w.2)) rfl hp (fun hc16 hp => ?_) (fun hc16 hp => ?_)
            · refine am_Rn.run am_h191 4 (F' := (118, [(0, .ref 83)], [.int (lg_cmp (w.2 83 12) 26479)])) (S' := (am_sh, hx, w.1, w.2)) rfl ?_
              refine am_Rn.ite am_h191 (c := (lg_cmp (w.2 83 12) 26479) = 0) (t := 121) (f := 123) (lv := [(0, .ref 83)]) (st := []) (S' := (am_sh, hx, w.1, w.2)) rfl hp (fun hc17 hp => ?_) (fun hc17 hp => ?_)
              · refine am_Rn.run am_h191 1 (F' := (122, [(0, .ref 83)], [.int 5])) (S' := (am_sh, hx, w.1, w.2)) rfl ?_
                subst hp
                exact am_Rn.ret am_h191 rfl
              · exact ezM_sortOf_J123 hd R w hp
            · exact ezM_sortOf_J123 hd R w hp
          · refine am_Rn.run am_h191 1 (F' := (101, [(0, .ref 83)], [.int 4])) (S' := (am_sh, hx, w.1, w.2)) rfl ?_
            subst hp
            exact am_Rn.ret am_h191 rfl
        · refine am_Rn.run am_h191 1 (F' := (81, [(0, .ref 83)], [.int 3])) (S' := (am_sh, hx, w.1, w.2)) rfl ?_
          subst hp
          exact am_Rn.ret am_h191 rfl
      · refine am_Rn.run am_h191 1 (F' := (59, [(0, .ref 83)], [.int 2])) (S' := (am_sh, hx, w.1, w.2)) rfl ?_
        subst hp
        exact am_Rn.ret am_h191 rfl
    · refine am_Rn.run am_h191 1 (F' := (37, [(0, .ref 83)], [.int 1])) (S' := (am_sh, hx, w.1, w.2)) rfl ?_
      subst hp
      exact am_Rn.ret am_h191 rfl
  · refine am_Rn.run am_h191 1 (F' := (17, [(0, .ref 83)], [.int 0])) (S' := (am_sh, hx, w.1, w.2)) rfl ?_
    subst hp
    exact am_Rn.ret am_h191 rfl
/-- SixHandsModel.emit(II)V [83] -/
def zM_emit (v1 : Int32) (v2 : Int32) (w : zHM) : Option (zHM) := am_ix 3160 (((w.1 83 13) + 185) + (2 * (w.1 83 15))) (am_b ((va_up w.1 86 (upd (w.1 86) ((((w.1 83 13) + 185) + (2 * (w.1 83 15))).toNatClampNeg) v1), w.2)) fun w2 => am_ix 3160 ((((w2.1 83 13) + 185) + (2 * (w2.1 83 15))) + 1) (am_b ((va_up w2.1 86 (upd (w2.1 86) (((((w2.1 83 13) + 185) + (2 * (w2.1 83 15))) + 1).toNatClampNeg) v2), w2.2)) fun w4 => am_b ((va_up w4.1 83 (upd (w4.1 83) 15 ((w4.1 83 15) + 1)), w4.2)) fun w5 => some w5))
set_option maxRecDepth 20000 in
theorem ezM_emit {d : Nat} (hd : 0 ≤ d) (v1 : Int32) (v2 : Int32) (w : zHM) (R : zHM) (hp : zM_emit v1 v2 w = some R) : am_Ev 83 Xs am_P d 177 [.ref 83, .int v1, .int v2] (am_sh, hx, w.1, w.2) (none, (am_sh, hx, R.1, R.2)) := by
  unfold zM_emit at hp
  show am_Rn 83 Xs am_P _ 177 (0, [(0, .ref 83), (1, .int v1), (2, .int v2)], []) _ _
  refine am_Rn.run am_h177 12 (F' := (20, [(0, .ref 83), (1, .int v1), (2, .int v2)], [.int v1, .int (((w.1 83 13) + 185) + (2 * (w.1 83 15))), .ref 86])) (S' := (am_sh, hx, w.1, w.2)) rfl ?_
  obtain ⟨hn1, hp⟩ := am_ix_e hp
  obtain ⟨w2, h_w2, hp⟩ := am_b_e hp
  refine am_Rn.stepG am_h177 (c := (((w.1 83 13) + 185) + (2 * (w.1 83 15))) < 0 ∨ 3160 ≤ (((w.1 83 13) + 185) + (2 * (w.1 83 15))).toNatClampNeg) (F' := (21, [(0, .ref 83), (1, .int v1), (2, .int v2)], [])) (S' := (am_sh, hx, w2.1, w2.2)) (by subst h_w2; rfl) hn1 ?_
  refine am_Rn.run am_h177 14 (F' := (43, [(0, .ref 83), (1, .int v1), (2, .int v2)], [.int v2, .int ((((w2.1 83 13) + 185) + (2 * (w2.1 83 15))) + 1), .ref 86])) (S' := (am_sh, hx, w2.1, w2.2)) rfl ?_
  obtain ⟨hn3, hp⟩ := am_ix_e hp
  obtain ⟨w4, h_w4, hp⟩ := am_b_e hp
  refine am_Rn.stepG am_h177 (c := ((((w2.1 83 13) + 185) + (2 * (w2.1 83 15))) + 1) < 0 ∨ 3160 ≤ ((((w2.1 83 13) + 185) + (2 * (w2.1 83 15))) + 1).toNatClampNeg) (F' := (44, [(0, .ref 83), (1, .int v1), (2, .int v2)], [])) (S' := (am_sh, hx, w4.1, w4.2)) (by subst h_w4; rfl) hn3 ?_
  obtain ⟨w5, h_w5, hp⟩ := am_b_e hp
  refine am_Rn.run am_h177 6 (F' := (54, [(0, .ref 83), (1, .int v1), (2, .int v2)], [])) (S' := (am_sh, hx, w5.1, w5.2)) (by subst h_w5; rfl) ?_
  cases hp
  exact am_Rn.ret am_h177 rfl
/-- SixHandsModel.whole()V [83] -/
def zM_whole_L5 : Nat → zHM → Option (zHM)
  | 0, _ => none
  | n + 1, w => if 0 < (w.1 83 18) then (am_ix 160 ((w.1 83 18) - 1) (if (w.1 88 (((w.1 83 18) - 1).toNatClampNeg)) = 2 then (am_b ((va_up w.1 83 (upd (w.1 83) 18 ((w.1 83 18) - 1)), w.2)) fun w5 => am_b ((va_up w5.1 83 (upd (w5.1 83) 19 ((w5.1 83 19) - 1)), w5.2)) fun w6 => (zM_emit 2 0 w6).bind fun r7 => zM_whole_L5 n r7) else (some w))) else (some w)
set_option maxRecDepth 20000 in
theorem ezM_whole_L5 {d : Nat} (hd : 1 ≤ d) (R : zHM) : ∀ (n : Nat) (w : zHM), zM_whole_L5 n w = some R → am_Rn 83 Xs am_P d 179 (5, [(0, .ref 83)], []) (am_sh, hx, w.1, w.2) (none, (am_sh, hx, R.1, R.2))
  | 0, _, hp => by cases hp
  | n + 1, w, hp => by
    obtain ⟨d, rfl⟩ : ∃ k, d = k + 1 := ⟨d - 1, by omega⟩
    unfold zM_whole_L5 at hp
    refine am_Rn.run am_h179 2 (F' := (9, [(0, .ref 83)], [.int (w.1 83 18)])) (S' := (am_sh, hx, w.1, w.2)) rfl ?_
    refine am_Rn.ite am_h179 (c := 0 < (w.1 83 18)) (t := 12) (f := 56) (lv := [(0, .ref 83)]) (st := []) (S' := (am_sh, hx, w.1, w.2)) rfl hp (fun hc2 hp => ?_) (fun hc2 hp => ?_)
    · refine am_Rn.run am_h179 6 (F' := (22, [(0, .ref 83)], [.int ((w.1 83 18) - 1), .ref 88])) (S' := (am_sh, hx, w.1, w.2)) rfl ?_
      obtain ⟨hn3, hp⟩ := am_ix_e hp
      refine am_Rn.stepG am_h179 (c := ((w.1 83 18) - 1) < 0 ∨ 160 ≤ ((w.1 83 18) - 1).toNatClampNeg) (F' := (23, [(0, .ref 83)], [.int (w.1 88 (((w.1 83 18) - 1).toNatClampNeg))])) (S' := (am_sh, hx, w.1, w.2)) rfl hn3 ?_
      refine am_Rn.run am_h179 1 (F' := (24, [(0, .ref 83)], [.int 2, .int (w.1 88 (((w.1 83 18) - 1).toNatClampNeg))])) (S' := (am_sh, hx, w.1, w.2)) rfl ?_
      refine am_Rn.ite am_h179 (c := (w.1 88 (((w.1 83 18) - 1).toNatClampNeg)) = 2) (t := 27) (f := 56) (lv := [(0, .ref 83)]) (st := []) (S' := (am_sh, hx, w.1, w.2)) rfl hp (fun hc4 hp => ?_) (fun hc4 hp => ?_)
      · obtain ⟨w5, h_w5, hp⟩ := am_b_e hp
        obtain ⟨w6, h_w6, hp⟩ := am_b_e hp
        refine am_Rn.run am_h179 15 (F' := (50, [(0, .ref 83)], [.int 0, .int 2, .ref 83])) (S' := (am_sh, hx, w6.1, w6.2)) (by subst h_w5; subst h_w6; rfl) ?_
        obtain ⟨r7, h_r7, hp⟩ := am_bind hp
        refine am_Rn.call am_h179 (mj := 177) (As := [.ref 83, .int 2, .int 0]) (F' := (53, [(0, .ref 83)], [])) (M' := am_m177) (r := none) (S1 := (am_sh, hx, r7.1, r7.2)) rfl am_h177 rfl (ezM_emit (by omega) 2 0 w6 _ h_r7) ?_
        refine am_Rn.run am_h179 1 (F' := (5, [(0, .ref 83)], [])) (S' := (am_sh, hx, r7.1, r7.2)) rfl ?_
        exact ezM_whole_L5 hd R n r7 hp
      · cases hp
        exact am_Rn.ret am_h179 rfl
    · cases hp
      exact am_Rn.ret am_h179 rfl
def zM_whole (w : zHM) : Option (zHM) := am_b ((va_up w.1 83 (upd (w.1 83) 20 1), w.2)) fun w1 => zM_whole_L5 am_N w1
set_option maxRecDepth 20000 in
theorem ezM_whole {d : Nat} (hd : 1 ≤ d) (w : zHM) (R : zHM) (hp : zM_whole w = some R) : am_Ev 83 Xs am_P d 179 [.ref 83] (am_sh, hx, w.1, w.2) (none, (am_sh, hx, R.1, R.2)) := by
  obtain ⟨d, rfl⟩ : ∃ k, d = k + 1 := ⟨d - 1, by omega⟩
  unfold zM_whole at hp
  show am_Rn 83 Xs am_P _ 179 (0, [(0, .ref 83)], []) _ _
  obtain ⟨w1, h_w1, hp⟩ := am_b_e hp
  refine am_Rn.run am_h179 3 (F' := (5, [(0, .ref 83)], [])) (S' := (am_sh, hx, w1.1, w1.2)) (by subst h_w1; rfl) ?_
  exact ezM_whole_L5 hd R am_N w1 hp
/-- SixHandsModel.w6(IIIIII)J [] -/
def zM_w6 (v0 : Int32) (v1 : Int32) (v2 : Int32) (v3 : Int32) (v4 : Int32) (v5 : Int32) : Int64 := am_b (zM_w5 v0 v1 v2 v3 v4) fun r1 => (r1 <<< ((8 : Int32).toInt64 &&& 63)) ||| (v5.toInt64)
set_option maxRecDepth 20000 in
theorem ezM_w6 {d : Nat} (hd : 2 ≤ d) (v0 : Int32) (v1 : Int32) (v2 : Int32) (v3 : Int32) (v4 : Int32) (v5 : Int32) : am_Ev 83 Xs am_P d 175 [.int v0, .int v1, .int v2, .int v3, .int v4, .int v5] S (some (.long ((zM_w6 v0 v1 v2 v3 v4 v5))), S) := by
  obtain ⟨R, hp⟩ : ∃ R, zM_w6 v0 v1 v2 v3 v4 v5 = R := ⟨_, rfl⟩
  rw [hp]
  obtain ⟨d, rfl⟩ : ∃ k, d = k + 1 := ⟨d - 1, by omega⟩
  unfold zM_w6 at hp
  show am_Rn 83 Xs am_P _ 175 (0, [(0, .int v0), (1, .int v1), (2, .int v2), (3, .int v3), (4, .int v4), (5, .int v5)], []) _ _
  refine am_Rn.run am_h175 5 (F' := (6, [(0, .int v0), (1, .int v1), (2, .int v2), (3, .int v3), (4, .int v4), (5, .int v5)], [.int v4, .int v3, .int v2, .int v1, .int v0])) (S' := S) rfl ?_
  obtain ⟨r1, h_r1, hp⟩ := am_b_e hp
  refine am_Rn.call am_h175 (mj := 173) (As := [.int v0, .int v1, .int v2, .int v3, .int v4]) (F' := (9, [(0, .int v0), (1, .int v1), (2, .int v2), (3, .int v3), (4, .int v4), (5, .int v5)], [])) (M' := am_m173) (r := some (.long r1)) (S1 := S) rfl am_h173 rfl (by subst h_r1; exact (ezM_w5 (by omega) v0 v1 v2 v3 v4)) ?_
  refine am_Rn.run am_h175 5 (F' := (16, [(0, .int v0), (1, .int v1), (2, .int v2), (3, .int v3), (4, .int v4), (5, .int v5)], [.long ((r1 <<< ((8 : Int32).toInt64 &&& 63)) ||| (v5.toInt64))])) (S' := S) rfl ?_
  subst hp
  exact am_Rn.ret am_h175 rfl
end
