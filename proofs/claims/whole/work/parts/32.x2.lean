section
variable {Xs : Nat × (Nat → Int32)} {hx hm : Nat → Nat → Int32} {g : Nat → Nat → Int64} {S : am_S}
/-- SixHands$Reader.takeOperator(LSixHands$Text;)V [55, 't'] -/
def zR_takeOperator_J194 (h : (Nat → Nat → Int32)) : Option ((Nat → Nat → Int32)) := am_b (zR_refuse 1 h) fun r11 => some r11
set_option maxRecDepth 20000 in
theorem ezR_takeOperator_J194 {d : Nat} (hd : 3 ≤ d) (R : (Nat → Nat → Int32)) (h : (Nat → Nat → Int32)) (hp : zR_takeOperator_J194 h = some R) : am_Rn 83 Xs am_P d 46 (194, [(0, .ref 55)], []) (am_sh, h, hm, g) (none, (am_sh, R, hm, g)) := by
  obtain ⟨d, rfl⟩ : ∃ k, d = k + 1 := ⟨d - 1, by omega⟩
  unfold zR_takeOperator_J194 at hp
  refine am_Rn.run am_h46 2 (F' := (196, [(0, .ref 55)], [.int 1, .ref 55])) (S' := (am_sh, h, hm, g)) rfl ?_
  obtain ⟨r11, h_r11, hp⟩ := am_b_e hp
  refine am_Rn.call am_h46 (mj := 33) (As := [.ref 55, .int 1]) (F' := (199, [(0, .ref 55)], [])) (M' := am_m33) (r := none) (S1 := (am_sh, r11, hm, g)) rfl am_h33 rfl (by subst h_r11; exact (ezR_refuse (by omega) 1 h)) ?_
  cases hp
  exact am_Rn.ret am_h46 rfl
def zR_takeOperator_J155 (v1 : Nat) (v2 : Int32) (v3 : Int32) (h : (Nat → Nat → Int32)) : Option ((Nat → Nat → Int32)) := if v3 = 0 then (zR_takeOperator_J194 h) else (if (h 55 6) = 0 then (if (h 55 8) = 0 then (zR_takeOperator_J194 h) else (am_b (zR_rankOf v2) fun r14 => (zR_settle v1 r14 h).bind fun r15 => (zR_push v2 r15).bind fun r16 => am_b (zR_beginAsk r16) fun r17 => some r17)) else (zR_takeOperator_J194 h))
set_option maxRecDepth 20000 in
theorem ezR_takeOperator_J155 {d : Nat} (hd : 3 ≤ d) (R : (Nat → Nat → Int32)) (v1 : Nat) (v2 : Int32) (v3 : Int32) (h : (Nat → Nat → Int32)) (hk_v1 : zK v1) (hp : zR_takeOperator_J155 v1 v2 v3 h = some R) : am_Rn 83 Xs am_P d 46 (155, [(0, .ref 55), (1, .ref v1), (2, .int v2), (3, .int v3)], []) (am_sh, h, hm, g) (none, (am_sh, R, hm, g)) := by
  obtain ⟨d, rfl⟩ : ∃ k, d = k + 1 := ⟨d - 1, by omega⟩
  unfold zR_takeOperator_J155 at hp
  refine am_Rn.run am_h46 1 (F' := (156, [(0, .ref 55), (1, .ref v1), (2, .int v2), (3, .int v3)], [.int v3])) (S' := (am_sh, h, hm, g)) (by rcases hk_v1 with rfl | rfl | rfl | rfl | rfl <;> rfl) ?_
  refine am_Rn.ite am_h46 (c := v3 = 0) (t := 194) (f := 159) (lv := [(0, .ref 55), (1, .ref v1), (2, .int v2), (3, .int v3)]) (st := []) (S' := (am_sh, h, hm, g)) (by rcases hk_v1 with rfl | rfl | rfl | rfl | rfl <;> rfl) hp (fun hc10 hp => ?_) (fun hc10 hp => ?_)
  · refine am_Rn.sub [0] rfl rfl ?_
    exact ezR_takeOperator_J194 hd R h hp
  · refine am_Rn.run am_h46 2 (F' := (163, [(0, .ref 55), (1, .ref v1), (2, .int v2), (3, .int v3)], [.int (h 55 6)])) (S' := (am_sh, h, hm, g)) (by rcases hk_v1 with rfl | rfl | rfl | rfl | rfl <;> rfl) ?_
    refine am_Rn.ite am_h46 (c := (h 55 6) = 0) (t := 166) (f := 194) (lv := [(0, .ref 55), (1, .ref v1), (2, .int v2), (3, .int v3)]) (st := []) (S' := (am_sh, h, hm, g)) (by rcases hk_v1 with rfl | rfl | rfl | rfl | rfl <;> rfl) hp (fun hc12 hp => ?_) (fun hc12 hp => ?_)
    · refine am_Rn.run am_h46 2 (F' := (170, [(0, .ref 55), (1, .ref v1), (2, .int v2), (3, .int v3)], [.int (h 55 8)])) (S' := (am_sh, h, hm, g)) (by rcases hk_v1 with rfl | rfl | rfl | rfl | rfl <;> rfl) ?_
      refine am_Rn.ite am_h46 (c := (h 55 8) = 0) (t := 194) (f := 173) (lv := [(0, .ref 55), (1, .ref v1), (2, .int v2), (3, .int v3)]) (st := []) (S' := (am_sh, h, hm, g)) (by rcases hk_v1 with rfl | rfl | rfl | rfl | rfl <;> rfl) hp (fun hc13 hp => ?_) (fun hc13 hp => ?_)
      · refine am_Rn.sub [0] rfl rfl ?_
        exact ezR_takeOperator_J194 hd R h hp
      · refine am_Rn.run am_h46 3 (F' := (176, [(0, .ref 55), (1, .ref v1), (2, .int v2), (3, .int v3)], [.int v2, .ref v1, .ref 55])) (S' := (am_sh, h, hm, g)) (by rcases hk_v1 with rfl | rfl | rfl | rfl | rfl <;> rfl) ?_
        obtain ⟨r14, h_r14, hp⟩ := am_b_e hp
        refine am_Rn.call am_h46 (mj := 49) (As := [.int v2]) (F' := (179, [(0, .ref 55), (1, .ref v1), (2, .int v2), (3, .int v3)], [.ref v1, .ref 55])) (M' := am_m49) (r := some (.int r14)) (S1 := (am_sh, h, hm, g)) (by rcases hk_v1 with rfl | rfl | rfl | rfl | rfl <;> rfl) am_h49 rfl (by subst h_r14; exact (ezR_rankOf (by omega) v2)) ?_
        obtain ⟨r15, h_r15, hp⟩ := am_bind hp
        refine am_Rn.call am_h46 (mj := 48) (As := [.ref 55, .ref v1, .int r14]) (F' := (182, [(0, .ref 55), (1, .ref v1), (2, .int v2), (3, .int v3)], [])) (M' := am_m48) (r := none) (S1 := (am_sh, r15, hm, g)) (by rcases hk_v1 with rfl | rfl | rfl | rfl | rfl <;> rfl) am_h48 rfl (ezR_settle (by omega) v1 r14 h _ hk_v1 h_r15) ?_
        refine am_Rn.run am_h46 2 (F' := (184, [(0, .ref 55), (1, .ref v1), (2, .int v2), (3, .int v3)], [.int v2, .ref 55])) (S' := (am_sh, r15, hm, g)) (by rcases hk_v1 with rfl | rfl | rfl | rfl | rfl <;> rfl) ?_
        obtain ⟨r16, h_r16, hp⟩ := am_bind hp
        refine am_Rn.call am_h46 (mj := 45) (As := [.ref 55, .int v2]) (F' := (187, [(0, .ref 55), (1, .ref v1), (2, .int v2), (3, .int v3)], [])) (M' := am_m45) (r := none) (S1 := (am_sh, r16, hm, g)) (by rcases hk_v1 with rfl | rfl | rfl | rfl | rfl <;> rfl) am_h45 rfl (ezR_push (by omega) v2 r15 _ h_r16) ?_
        refine am_Rn.run am_h46 1 (F' := (188, [(0, .ref 55), (1, .ref v1), (2, .int v2), (3, .int v3)], [.ref 55])) (S' := (am_sh, r16, hm, g)) (by rcases hk_v1 with rfl | rfl | rfl | rfl | rfl <;> rfl) ?_
        obtain ⟨r17, h_r17, hp⟩ := am_b_e hp
        refine am_Rn.call am_h46 (mj := 40) (As := [.ref 55]) (F' := (191, [(0, .ref 55), (1, .ref v1), (2, .int v2), (3, .int v3)], [])) (M' := am_m40) (r := none) (S1 := (am_sh, r17, hm, g)) (by rcases hk_v1 with rfl | rfl | rfl | rfl | rfl <;> rfl) am_h40 rfl (by subst h_r17; exact (ezR_beginAsk (by omega) r16)) ?_
        refine am_Rn.run am_h46 1 (F' := (199, [(0, .ref 55), (1, .ref v1), (2, .int v2), (3, .int v3)], [])) (S' := (am_sh, r17, hm, g)) (by rcases hk_v1 with rfl | rfl | rfl | rfl | rfl <;> rfl) ?_
        cases hp
        exact am_Rn.ret am_h46 (by rcases hk_v1 with rfl | rfl | rfl | rfl | rfl <;> rfl)
    · refine am_Rn.sub [0] rfl rfl ?_
      exact ezR_takeOperator_J194 hd R h hp
def zR_takeOperator_J112 (v1 : Nat) (v2 : Int32) (v4 : Int32) (h : (Nat → Nat → Int32)) : Option ((Nat → Nat → Int32)) := am_b (zR_rankOf v2) fun r20 => (zR_settle v1 r20 h).bind fun r21 => (zR_push v2 r21).bind fun r22 => am_b (va_up r22 55 (upd (r22 55) 7 0)) fun h23 => if (h23 55 8) = 0 then (if v4 = 0 then (am_b (va_up h23 55 (upd (h23 55) 8 0)) fun h26 => some h26) else (am_b (va_up h23 55 (upd (h23 55) 8 1)) fun h27 => some h27)) else (am_b (va_up h23 55 (upd (h23 55) 8 1)) fun h28 => some h28)
set_option maxRecDepth 20000 in
theorem ezR_takeOperator_J112 {d : Nat} (hd : 3 ≤ d) (R : (Nat → Nat → Int32)) (v1 : Nat) (v2 : Int32) (v4 : Int32) (h : (Nat → Nat → Int32)) (hk_v1 : zK v1) (hp : zR_takeOperator_J112 v1 v2 v4 h = some R) : am_Rn 83 Xs am_P d 46 (112, [(0, .ref 55), (1, .ref v1), (2, .int v2), (4, .int v4)], []) (am_sh, h, hm, g) (none, (am_sh, R, hm, g)) := by
  obtain ⟨d, rfl⟩ : ∃ k, d = k + 1 := ⟨d - 1, by omega⟩
  unfold zR_takeOperator_J112 at hp
  refine am_Rn.run am_h46 3 (F' := (115, [(0, .ref 55), (1, .ref v1), (2, .int v2), (4, .int v4)], [.int v2, .ref v1, .ref 55])) (S' := (am_sh, h, hm, g)) (by rcases hk_v1 with rfl | rfl | rfl | rfl | rfl <;> rfl) ?_
  obtain ⟨r20, h_r20, hp⟩ := am_b_e hp
  refine am_Rn.call am_h46 (mj := 49) (As := [.int v2]) (F' := (118, [(0, .ref 55), (1, .ref v1), (2, .int v2), (4, .int v4)], [.ref v1, .ref 55])) (M' := am_m49) (r := some (.int r20)) (S1 := (am_sh, h, hm, g)) (by rcases hk_v1 with rfl | rfl | rfl | rfl | rfl <;> rfl) am_h49 rfl (by subst h_r20; exact (ezR_rankOf (by omega) v2)) ?_
  obtain ⟨r21, h_r21, hp⟩ := am_bind hp
  refine am_Rn.call am_h46 (mj := 48) (As := [.ref 55, .ref v1, .int r20]) (F' := (121, [(0, .ref 55), (1, .ref v1), (2, .int v2), (4, .int v4)], [])) (M' := am_m48) (r := none) (S1 := (am_sh, r21, hm, g)) (by rcases hk_v1 with rfl | rfl | rfl | rfl | rfl <;> rfl) am_h48 rfl (ezR_settle (by omega) v1 r20 h _ hk_v1 h_r21) ?_
  refine am_Rn.run am_h46 2 (F' := (123, [(0, .ref 55), (1, .ref v1), (2, .int v2), (4, .int v4)], [.int v2, .ref 55])) (S' := (am_sh, r21, hm, g)) (by rcases hk_v1 with rfl | rfl | rfl | rfl | rfl <;> rfl) ?_
  obtain ⟨r22, h_r22, hp⟩ := am_bind hp
  refine am_Rn.call am_h46 (mj := 45) (As := [.ref 55, .int v2]) (F' := (126, [(0, .ref 55), (1, .ref v1), (2, .int v2), (4, .int v4)], [])) (M' := am_m45) (r := none) (S1 := (am_sh, r22, hm, g)) (by rcases hk_v1 with rfl | rfl | rfl | rfl | rfl <;> rfl) am_h45 rfl (ezR_push (by omega) v2 r21 _ h_r22) ?_
  obtain ⟨h23, h_h23, hp⟩ := am_b_e hp
  refine am_Rn.run am_h46 6 (F' := (136, [(0, .ref 55), (1, .ref v1), (2, .int v2), (4, .int v4)], [.int (h23 55 8), .ref 55])) (S' := (am_sh, h23, hm, g)) (by subst h_h23; rcases hk_v1 with rfl | rfl | rfl | rfl | rfl <;> rfl) ?_
  refine am_Rn.ite am_h46 (c := (h23 55 8) = 0) (t := 139) (f := 144) (lv := [(0, .ref 55), (1, .ref v1), (2, .int v2), (4, .int v4)]) (st := [.ref 55]) (S' := (am_sh, h23, hm, g)) (by rcases hk_v1 with rfl | rfl | rfl | rfl | rfl <;> rfl) hp (fun hc24 hp => ?_) (fun hc24 hp => ?_)
  · refine am_Rn.run am_h46 1 (F' := (141, [(0, .ref 55), (1, .ref v1), (2, .int v2), (4, .int v4)], [.int v4, .ref 55])) (S' := (am_sh, h23, hm, g)) (by rcases hk_v1 with rfl | rfl | rfl | rfl | rfl <;> rfl) ?_
    refine am_Rn.ite am_h46 (c := v4 = 0) (t := 148) (f := 144) (lv := [(0, .ref 55), (1, .ref v1), (2, .int v2), (4, .int v4)]) (st := [.ref 55]) (S' := (am_sh, h23, hm, g)) (by rcases hk_v1 with rfl | rfl | rfl | rfl | rfl <;> rfl) hp (fun hc25 hp => ?_) (fun hc25 hp => ?_)
    · obtain ⟨h26, h_h26, hp⟩ := am_b_e hp
      refine am_Rn.run am_h46 3 (F' := (199, [(0, .ref 55), (1, .ref v1), (2, .int v2), (4, .int v4)], [])) (S' := (am_sh, h26, hm, g)) (by subst h_h26; rcases hk_v1 with rfl | rfl | rfl | rfl | rfl <;> rfl) ?_
      cases hp
      exact am_Rn.ret am_h46 (by rcases hk_v1 with rfl | rfl | rfl | rfl | rfl <;> rfl)
    · obtain ⟨h27, h_h27, hp⟩ := am_b_e hp
      refine am_Rn.run am_h46 4 (F' := (199, [(0, .ref 55), (1, .ref v1), (2, .int v2), (4, .int v4)], [])) (S' := (am_sh, h27, hm, g)) (by subst h_h27; rcases hk_v1 with rfl | rfl | rfl | rfl | rfl <;> rfl) ?_
      cases hp
      exact am_Rn.ret am_h46 (by rcases hk_v1 with rfl | rfl | rfl | rfl | rfl <;> rfl)
  · obtain ⟨h28, h_h28, hp⟩ := am_b_e hp
    refine am_Rn.run am_h46 4 (F' := (199, [(0, .ref 55), (1, .ref v1), (2, .int v2), (4, .int v4)], [])) (S' := (am_sh, h28, hm, g)) (by subst h_h28; rcases hk_v1 with rfl | rfl | rfl | rfl | rfl <;> rfl) ?_
    cases hp
    exact am_Rn.ret am_h46 (by rcases hk_v1 with rfl | rfl | rfl | rfl | rfl <;> rfl)
def zR_takeOperator_J88 (v1 : Nat) (v2 : Int32) (v3 : Int32) (v4 : Int32) (v5 : Int32) (h : (Nat → Nat → Int32)) : Option ((Nat → Nat → Int32)) := if v5 = 0 then (if v4 = 0 then (zR_takeOperator_J155 v1 v2 v3 h) else (if (h 55 6) = 0 then (if (h 55 8) = 0 then (zR_takeOperator_J112 v1 v2 v4 h) else (zR_takeOperator_J155 v1 v2 v3 h)) else (zR_takeOperator_J155 v1 v2 v3 h))) else (zR_takeOperator_J112 v1 v2 v4 h)
set_option maxRecDepth 20000 in
theorem ezR_takeOperator_J88 {d : Nat} (hd : 3 ≤ d) (R : (Nat → Nat → Int32)) (v1 : Nat) (v2 : Int32) (v3 : Int32) (v4 : Int32) (v5 : Int32) (h : (Nat → Nat → Int32)) (hk_v1 : zK v1) (hp : zR_takeOperator_J88 v1 v2 v3 v4 v5 h = some R) : am_Rn 83 Xs am_P d 46 (88, [(0, .ref 55), (1, .ref v1), (2, .int v2), (3, .int v3), (4, .int v4), (5, .int v5)], []) (am_sh, h, hm, g) (none, (am_sh, R, hm, g)) := by
  obtain ⟨d, rfl⟩ : ∃ k, d = k + 1 := ⟨d - 1, by omega⟩
  unfold zR_takeOperator_J88 at hp
  refine am_Rn.run am_h46 1 (F' := (90, [(0, .ref 55), (1, .ref v1), (2, .int v2), (3, .int v3), (4, .int v4), (5, .int v5)], [.int v5])) (S' := (am_sh, h, hm, g)) (by rcases hk_v1 with rfl | rfl | rfl | rfl | rfl <;> rfl) ?_
  refine am_Rn.ite am_h46 (c := v5 = 0) (t := 93) (f := 112) (lv := [(0, .ref 55), (1, .ref v1), (2, .int v2), (3, .int v3), (4, .int v4), (5, .int v5)]) (st := []) (S' := (am_sh, h, hm, g)) (by rcases hk_v1 with rfl | rfl | rfl | rfl | rfl <;> rfl) hp (fun hc8 hp => ?_) (fun hc8 hp => ?_)
  · refine am_Rn.run am_h46 1 (F' := (95, [(0, .ref 55), (1, .ref v1), (2, .int v2), (3, .int v3), (4, .int v4), (5, .int v5)], [.int v4])) (S' := (am_sh, h, hm, g)) (by rcases hk_v1 with rfl | rfl | rfl | rfl | rfl <;> rfl) ?_
    refine am_Rn.ite am_h46 (c := v4 = 0) (t := 155) (f := 98) (lv := [(0, .ref 55), (1, .ref v1), (2, .int v2), (3, .int v3), (4, .int v4), (5, .int v5)]) (st := []) (S' := (am_sh, h, hm, g)) (by rcases hk_v1 with rfl | rfl | rfl | rfl | rfl <;> rfl) hp (fun hc9 hp => ?_) (fun hc9 hp => ?_)
    · refine am_Rn.sub [0, 1, 2, 3] rfl rfl ?_
      exact ezR_takeOperator_J155 hd R v1 v2 v3 h hk_v1 hp
    · refine am_Rn.run am_h46 2 (F' := (102, [(0, .ref 55), (1, .ref v1), (2, .int v2), (3, .int v3), (4, .int v4), (5, .int v5)], [.int (h 55 6)])) (S' := (am_sh, h, hm, g)) (by rcases hk_v1 with rfl | rfl | rfl | rfl | rfl <;> rfl) ?_
      refine am_Rn.ite am_h46 (c := (h 55 6) = 0) (t := 105) (f := 155) (lv := [(0, .ref 55), (1, .ref v1), (2, .int v2), (3, .int v3), (4, .int v4), (5, .int v5)]) (st := []) (S' := (am_sh, h, hm, g)) (by rcases hk_v1 with rfl | rfl | rfl | rfl | rfl <;> rfl) hp (fun hc18 hp => ?_) (fun hc18 hp => ?_)
      · refine am_Rn.run am_h46 2 (F' := (109, [(0, .ref 55), (1, .ref v1), (2, .int v2), (3, .int v3), (4, .int v4), (5, .int v5)], [.int (h 55 8)])) (S' := (am_sh, h, hm, g)) (by rcases hk_v1 with rfl | rfl | rfl | rfl | rfl <;> rfl) ?_
        refine am_Rn.ite am_h46 (c := (h 55 8) = 0) (t := 112) (f := 155) (lv := [(0, .ref 55), (1, .ref v1), (2, .int v2), (3, .int v3), (4, .int v4), (5, .int v5)]) (st := []) (S' := (am_sh, h, hm, g)) (by rcases hk_v1 with rfl | rfl | rfl | rfl | rfl <;> rfl) hp (fun hc19 hp => ?_) (fun hc19 hp => ?_)
        · refine am_Rn.sub [0, 1, 2, 4] rfl rfl ?_
          exact ezR_takeOperator_J112 hd R v1 v2 v4 h hk_v1 hp
        · refine am_Rn.sub [0, 1, 2, 3] rfl rfl ?_
          exact ezR_takeOperator_J155 hd R v1 v2 v3 h hk_v1 hp
      · refine am_Rn.sub [0, 1, 2, 3] rfl rfl ?_
        exact ezR_takeOperator_J155 hd R v1 v2 v3 h hk_v1 hp
  · refine am_Rn.sub [0, 1, 2, 4] rfl rfl ?_
    exact ezR_takeOperator_J112 hd R v1 v2 v4 h hk_v1 hp
def zR_takeOperator_J65 (v1 : Nat) (v2 : Int32) (v3 : Int32) (v4 : Int32) (s0 : Int32) (h : (Nat → Nat → Int32)) : Option ((Nat → Nat → Int32)) := if v2 = 32 then (if 0 < (h 55 6) then ((zR_closeBracket v1 h).bind fun r7 => some r7) else (zR_takeOperator_J88 v1 v2 v3 v4 s0 h)) else (zR_takeOperator_J88 v1 v2 v3 v4 s0 h)
set_option maxRecDepth 20000 in
theorem ezR_takeOperator_J65 {d : Nat} (hd : 3 ≤ d) (R : (Nat → Nat → Int32)) (v1 : Nat) (v2 : Int32) (v3 : Int32) (v4 : Int32) (s0 : Int32) (h : (Nat → Nat → Int32)) (hk_v1 : zK v1) (hp : zR_takeOperator_J65 v1 v2 v3 v4 s0 h = some R) : am_Rn 83 Xs am_P d 46 (65, [(0, .ref 55), (1, .ref v1), (2, .int v2), (3, .int v3), (4, .int v4)], [.int s0]) (am_sh, h, hm, g) (none, (am_sh, R, hm, g)) := by
  obtain ⟨d, rfl⟩ : ∃ k, d = k + 1 := ⟨d - 1, by omega⟩
  unfold zR_takeOperator_J65 at hp
  refine am_Rn.run am_h46 3 (F' := (70, [(5, .int s0), (0, .ref 55), (1, .ref v1), (2, .int v2), (3, .int v3), (4, .int v4)], [.int 32, .int v2])) (S' := (am_sh, h, hm, g)) (by rcases hk_v1 with rfl | rfl | rfl | rfl | rfl <;> rfl) ?_
  refine am_Rn.ite am_h46 (c := v2 = 32) (t := 73) (f := 88) (lv := [(5, .int s0), (0, .ref 55), (1, .ref v1), (2, .int v2), (3, .int v3), (4, .int v4)]) (st := []) (S' := (am_sh, h, hm, g)) (by rcases hk_v1 with rfl | rfl | rfl | rfl | rfl <;> rfl) hp (fun hc5 hp => ?_) (fun hc5 hp => ?_)
  · refine am_Rn.run am_h46 2 (F' := (77, [(5, .int s0), (0, .ref 55), (1, .ref v1), (2, .int v2), (3, .int v3), (4, .int v4)], [.int (h 55 6)])) (S' := (am_sh, h, hm, g)) (by rcases hk_v1 with rfl | rfl | rfl | rfl | rfl <;> rfl) ?_
    refine am_Rn.ite am_h46 (c := 0 < (h 55 6)) (t := 80) (f := 88) (lv := [(5, .int s0), (0, .ref 55), (1, .ref v1), (2, .int v2), (3, .int v3), (4, .int v4)]) (st := []) (S' := (am_sh, h, hm, g)) (by rcases hk_v1 with rfl | rfl | rfl | rfl | rfl <;> rfl) hp (fun hc6 hp => ?_) (fun hc6 hp => ?_)
    · refine am_Rn.run am_h46 2 (F' := (82, [(5, .int s0), (0, .ref 55), (1, .ref v1), (2, .int v2), (3, .int v3), (4, .int v4)], [.ref v1, .ref 55])) (S' := (am_sh, h, hm, g)) (by rcases hk_v1 with rfl | rfl | rfl | rfl | rfl <;> rfl) ?_
      obtain ⟨r7, h_r7, hp⟩ := am_bind hp
      refine am_Rn.call am_h46 (mj := 47) (As := [.ref 55, .ref v1]) (F' := (85, [(5, .int s0), (0, .ref 55), (1, .ref v1), (2, .int v2), (3, .int v3), (4, .int v4)], [])) (M' := am_m47) (r := none) (S1 := (am_sh, r7, hm, g)) (by rcases hk_v1 with rfl | rfl | rfl | rfl | rfl <;> rfl) am_h47 rfl (ezR_closeBracket (by omega) v1 h _ hk_v1 h_r7) ?_
      refine am_Rn.run am_h46 1 (F' := (199, [(5, .int s0), (0, .ref 55), (1, .ref v1), (2, .int v2), (3, .int v3), (4, .int v4)], [])) (S' := (am_sh, r7, hm, g)) (by rcases hk_v1 with rfl | rfl | rfl | rfl | rfl <;> rfl) ?_
      cases hp
      exact am_Rn.ret am_h46 (by rcases hk_v1 with rfl | rfl | rfl | rfl | rfl <;> rfl)
    · refine am_Rn.sub [1, 2, 3, 4, 5, 0] rfl rfl ?_
      exact ezR_takeOperator_J88 hd R v1 v2 v3 v4 s0 h hk_v1 hp
  · refine am_Rn.sub [1, 2, 3, 4, 5, 0] rfl rfl ?_
    exact ezR_takeOperator_J88 hd R v1 v2 v3 v4 s0 h hk_v1 hp
def zR_takeOperator_J64 (v1 : Nat) (v2 : Int32) (v3 : Int32) (v4 : Int32) (h : (Nat → Nat → Int32)) : Option ((Nat → Nat → Int32)) := zR_takeOperator_J65 v1 v2 v3 v4 0 h
set_option maxRecDepth 20000 in
theorem ezR_takeOperator_J64 {d : Nat} (hd : 3 ≤ d) (R : (Nat → Nat → Int32)) (v1 : Nat) (v2 : Int32) (v3 : Int32) (v4 : Int32) (h : (Nat → Nat → Int32)) (hk_v1 : zK v1) (hp : zR_takeOperator_J64 v1 v2 v3 v4 h = some R) : am_Rn 83 Xs am_P d 46 (64, [(0, .ref 55), (1, .ref v1), (2, .int v2), (3, .int v3), (4, .int v4)], []) (am_sh, h, hm, g) (none, (am_sh, R, hm, g)) := by
  obtain ⟨d, rfl⟩ : ∃ k, d = k + 1 := ⟨d - 1, by omega⟩
  unfold zR_takeOperator_J64 at hp
  refine am_Rn.run am_h46 1 (F' := (65, [(0, .ref 55), (1, .ref v1), (2, .int v2), (3, .int v3), (4, .int v4)], [.int 0])) (S' := (am_sh, h, hm, g)) (by rcases hk_v1 with rfl | rfl | rfl | rfl | rfl <;> rfl) ?_
  exact ezR_takeOperator_J65 hd R v1 v2 v3 v4 0 h hk_v1 hp
def zR_takeOperator_J46 (v1 : Nat) (v2 : Int32) (v3 : Int32) (s0 : Int32) (h : (Nat → Nat → Int32)) : Option ((Nat → Nat → Int32)) := if v2 < 27 then (zR_takeOperator_J64 v1 v2 v3 s0 h) else (if 30 < v2 then (zR_takeOperator_J64 v1 v2 v3 s0 h) else (zR_takeOperator_J65 v1 v2 v3 s0 1 h))
set_option maxRecDepth 20000 in
theorem ezR_takeOperator_J46 {d : Nat} (hd : 3 ≤ d) (R : (Nat → Nat → Int32)) (v1 : Nat) (v2 : Int32) (v3 : Int32) (s0 : Int32) (h : (Nat → Nat → Int32)) (hk_v1 : zK v1) (hp : zR_takeOperator_J46 v1 v2 v3 s0 h = some R) : am_Rn 83 Xs am_P d 46 (46, [(0, .ref 55), (1, .ref v1), (2, .int v2), (3, .int v3)], [.int s0]) (am_sh, h, hm, g) (none, (am_sh, R, hm, g)) := by
  obtain ⟨d, rfl⟩ : ∃ k, d = k + 1 := ⟨d - 1, by omega⟩
  unfold zR_takeOperator_J46 at hp
  refine am_Rn.run am_h46 3 (F' := (51, [(4, .int s0), (0, .ref 55), (1, .ref v1), (2, .int v2), (3, .int v3)], [.int 27, .int v2])) (S' := (am_sh, h, hm, g)) (by rcases hk_v1 with rfl | rfl | rfl | rfl | rfl <;> rfl) ?_
  refine am_Rn.ite am_h46 (c := v2 < 27) (t := 64) (f := 54) (lv := [(4, .int s0), (0, .ref 55), (1, .ref v1), (2, .int v2), (3, .int v3)]) (st := []) (S' := (am_sh, h, hm, g)) (by rcases hk_v1 with rfl | rfl | rfl | rfl | rfl <;> rfl) hp (fun hc4 hp => ?_) (fun hc4 hp => ?_)
  · refine am_Rn.sub [1, 2, 3, 4, 0] rfl rfl ?_
    exact ezR_takeOperator_J64 hd R v1 v2 v3 s0 h hk_v1 hp
  · refine am_Rn.run am_h46 2 (F' := (57, [(4, .int s0), (0, .ref 55), (1, .ref v1), (2, .int v2), (3, .int v3)], [.int 30, .int v2])) (S' := (am_sh, h, hm, g)) (by rcases hk_v1 with rfl | rfl | rfl | rfl | rfl <;> rfl) ?_
    refine am_Rn.ite am_h46 (c := 30 < v2) (t := 64) (f := 60) (lv := [(4, .int s0), (0, .ref 55), (1, .ref v1), (2, .int v2), (3, .int v3)]) (st := []) (S' := (am_sh, h, hm, g)) (by rcases hk_v1 with rfl | rfl | rfl | rfl | rfl <;> rfl) hp (fun hc29 hp => ?_) (fun hc29 hp => ?_)
    · refine am_Rn.sub [1, 2, 3, 4, 0] rfl rfl ?_
      exact ezR_takeOperator_J64 hd R v1 v2 v3 s0 h hk_v1 hp
    · refine am_Rn.run am_h46 2 (F' := (65, [(4, .int s0), (0, .ref 55), (1, .ref v1), (2, .int v2), (3, .int v3)], [.int 1])) (S' := (am_sh, h, hm, g)) (by rcases hk_v1 with rfl | rfl | rfl | rfl | rfl <;> rfl) ?_
      refine am_Rn.sub [1, 2, 3, 4, 0] rfl rfl ?_
      exact ezR_takeOperator_J65 hd R v1 v2 v3 s0 1 h hk_v1 hp
def zR_takeOperator_J45 (v1 : Nat) (v2 : Int32) (v3 : Int32) (h : (Nat → Nat → Int32)) : Option ((Nat → Nat → Int32)) := zR_takeOperator_J46 v1 v2 v3 0 h
set_option maxRecDepth 20000 in
theorem ezR_takeOperator_J45 {d : Nat} (hd : 3 ≤ d) (R : (Nat → Nat → Int32)) (v1 : Nat) (v2 : Int32) (v3 : Int32) (h : (Nat → Nat → Int32)) (hk_v1 : zK v1) (hp : zR_takeOperator_J45 v1 v2 v3 h = some R) : am_Rn 83 Xs am_P d 46 (45, [(0, .ref 55), (1, .ref v1), (2, .int v2), (3, .int v3)], []) (am_sh, h, hm, g) (none, (am_sh, R, hm, g)) := by
  obtain ⟨d, rfl⟩ : ∃ k, d = k + 1 := ⟨d - 1, by omega⟩
  unfold zR_takeOperator_J45 at hp
  refine am_Rn.run am_h46 1 (F' := (46, [(0, .ref 55), (1, .ref v1), (2, .int v2), (3, .int v3)], [.int 0])) (S' := (am_sh, h, hm, g)) (by rcases hk_v1 with rfl | rfl | rfl | rfl | rfl <;> rfl) ?_
  exact ezR_takeOperator_J46 hd R v1 v2 v3 0 h hk_v1 hp
def zR_takeOperator_J28 (v1 : Nat) (v2 : Int32) (s0 : Int32) (h : (Nat → Nat → Int32)) : Option ((Nat → Nat → Int32)) := if v2 < 21 then (zR_takeOperator_J45 v1 v2 s0 h) else (if 26 < v2 then (zR_takeOperator_J45 v1 v2 s0 h) else (zR_takeOperator_J46 v1 v2 s0 1 h))
set_option maxRecDepth 20000 in
theorem ezR_takeOperator_J28 {d : Nat} (hd : 3 ≤ d) (R : (Nat → Nat → Int32)) (v1 : Nat) (v2 : Int32) (s0 : Int32) (h : (Nat → Nat → Int32)) (hk_v1 : zK v1) (hp : zR_takeOperator_J28 v1 v2 s0 h = some R) : am_Rn 83 Xs am_P d 46 (28, [(0, .ref 55), (1, .ref v1), (2, .int v2)], [.int s0]) (am_sh, h, hm, g) (none, (am_sh, R, hm, g)) := by
  obtain ⟨d, rfl⟩ : ∃ k, d = k + 1 := ⟨d - 1, by omega⟩
  unfold zR_takeOperator_J28 at hp
  refine am_Rn.run am_h46 3 (F' := (32, [(3, .int s0), (0, .ref 55), (1, .ref v1), (2, .int v2)], [.int 21, .int v2])) (S' := (am_sh, h, hm, g)) (by rcases hk_v1 with rfl | rfl | rfl | rfl | rfl <;> rfl) ?_
  refine am_Rn.ite am_h46 (c := v2 < 21) (t := 45) (f := 35) (lv := [(3, .int s0), (0, .ref 55), (1, .ref v1), (2, .int v2)]) (st := []) (S' := (am_sh, h, hm, g)) (by rcases hk_v1 with rfl | rfl | rfl | rfl | rfl <;> rfl) hp (fun hc3 hp => ?_) (fun hc3 hp => ?_)
  · refine am_Rn.sub [1, 2, 3, 0] rfl rfl ?_
    exact ezR_takeOperator_J45 hd R v1 v2 s0 h hk_v1 hp
  · refine am_Rn.run am_h46 2 (F' := (38, [(3, .int s0), (0, .ref 55), (1, .ref v1), (2, .int v2)], [.int 26, .int v2])) (S' := (am_sh, h, hm, g)) (by rcases hk_v1 with rfl | rfl | rfl | rfl | rfl <;> rfl) ?_
    refine am_Rn.ite am_h46 (c := 26 < v2) (t := 45) (f := 41) (lv := [(3, .int s0), (0, .ref 55), (1, .ref v1), (2, .int v2)]) (st := []) (S' := (am_sh, h, hm, g)) (by rcases hk_v1 with rfl | rfl | rfl | rfl | rfl <;> rfl) hp (fun hc30 hp => ?_) (fun hc30 hp => ?_)
    · refine am_Rn.sub [1, 2, 3, 0] rfl rfl ?_
      exact ezR_takeOperator_J45 hd R v1 v2 s0 h hk_v1 hp
    · refine am_Rn.run am_h46 2 (F' := (46, [(3, .int s0), (0, .ref 55), (1, .ref v1), (2, .int v2)], [.int 1])) (S' := (am_sh, h, hm, g)) (by rcases hk_v1 with rfl | rfl | rfl | rfl | rfl <;> rfl) ?_
      refine am_Rn.sub [1, 2, 3, 0] rfl rfl ?_
      exact ezR_takeOperator_J46 hd R v1 v2 s0 1 h hk_v1 hp
def zR_takeOperator_J23 (v1 : Nat) (v2 : Int32) (h : (Nat → Nat → Int32)) : Option ((Nat → Nat → Int32)) := zR_takeOperator_J28 v1 v2 1 h
set_option maxRecDepth 20000 in
theorem ezR_takeOperator_J23 {d : Nat} (hd : 3 ≤ d) (R : (Nat → Nat → Int32)) (v1 : Nat) (v2 : Int32) (h : (Nat → Nat → Int32)) (hk_v1 : zK v1) (hp : zR_takeOperator_J23 v1 v2 h = some R) : am_Rn 83 Xs am_P d 46 (23, [(0, .ref 55), (1, .ref v1), (2, .int v2)], []) (am_sh, h, hm, g) (none, (am_sh, R, hm, g)) := by
  obtain ⟨d, rfl⟩ : ∃ k, d = k + 1 := ⟨d - 1, by omega⟩
  unfold zR_takeOperator_J23 at hp
  refine am_Rn.run am_h46 2 (F' := (28, [(0, .ref 55), (1, .ref v1), (2, .int v2)], [.int 1])) (S' := (am_sh, h, hm, g)) (by rcases hk_v1 with rfl | rfl | rfl | rfl | rfl <;> rfl) ?_
  exact ezR_takeOperator_J28 hd R v1 v2 1 h hk_v1 hp
def zR_takeOperator (v1 : Nat) (h : (Nat → Nat → Int32)) : Option ((Nat → Nat → Int32)) := am_b (h 56 3) fun x1 => if x1 = 1 then (zR_takeOperator_J23 v1 x1 h) else (if x1 = 0 then (zR_takeOperator_J23 v1 x1 h) else (if x1 = 34 then (zR_takeOperator_J23 v1 x1 h) else (zR_takeOperator_J28 v1 x1 0 h)))
set_option maxRecDepth 20000 in
theorem ezR_takeOperator {d : Nat} (hd : 3 ≤ d) (v1 : Nat) (h : (Nat → Nat → Int32)) (R : (Nat → Nat → Int32)) (hk_v1 : zK v1) (hp : zR_takeOperator v1 h = some R) : am_Ev 83 Xs am_P d 46 [.ref 55, .ref v1] (am_sh, h, hm, g) (none, (am_sh, R, hm, g)) := by
  obtain ⟨d, rfl⟩ : ∃ k, d = k + 1 := ⟨d - 1, by omega⟩
  unfold zR_takeOperator at hp
  show am_Rn 83 Xs am_P _ 46 (0, [(0, .ref 55), (1, .ref v1)], []) _ _
  obtain ⟨x1, h_x1, hp⟩ := am_b_e hp
  refine am_Rn.run am_h46 6 (F' := (10, [(2, .int x1), (0, .ref 55), (1, .ref v1)], [.int 1, .int x1])) (S' := (am_sh, h, hm, g)) (by subst h_x1; rcases hk_v1 with rfl | rfl | rfl | rfl | rfl <;> rfl) ?_
  refine am_Rn.ite am_h46 (c := x1 = 1) (t := 23) (f := 13) (lv := [(2, .int x1), (0, .ref 55), (1, .ref v1)]) (st := []) (S' := (am_sh, h, hm, g)) (by rcases hk_v1 with rfl | rfl | rfl | rfl | rfl <;> rfl) hp (fun hc2 hp => ?_) (fun hc2 hp => ?_)
  · refine am_Rn.sub [1, 2, 0] rfl rfl ?_
    exact ezR_takeOperator_J23 hd R v1 x1 h hk_v1 hp
  · refine am_Rn.run am_h46 1 (F' := (14, [(2, .int x1), (0, .ref 55), (1, .ref v1)], [.int x1])) (S' := (am_sh, h, hm, g)) (by rcases hk_v1 with rfl | rfl | rfl | rfl | rfl <;> rfl) ?_
    refine am_Rn.ite am_h46 (c := x1 = 0) (t := 23) (f := 17) (lv := [(2, .int x1), (0, .ref 55), (1, .ref v1)]) (st := []) (S' := (am_sh, h, hm, g)) (by rcases hk_v1 with rfl | rfl | rfl | rfl | rfl <;> rfl) hp (fun hc31 hp => ?_) (fun hc31 hp => ?_)
    · refine am_Rn.sub [1, 2, 0] rfl rfl ?_
      exact ezR_takeOperator_J23 hd R v1 x1 h hk_v1 hp
    · refine am_Rn.run am_h46 2 (F' := (20, [(2, .int x1), (0, .ref 55), (1, .ref v1)], [.int 34, .int x1])) (S' := (am_sh, h, hm, g)) (by rcases hk_v1 with rfl | rfl | rfl | rfl | rfl <;> rfl) ?_
      refine am_Rn.ite am_h46 (c := x1 = 34) (t := 23) (f := 27) (lv := [(2, .int x1), (0, .ref 55), (1, .ref v1)]) (st := []) (S' := (am_sh, h, hm, g)) (by rcases hk_v1 with rfl | rfl | rfl | rfl | rfl <;> rfl) hp (fun hc32 hp => ?_) (fun hc32 hp => ?_)
      · refine am_Rn.sub [1, 2, 0] rfl rfl ?_
        exact ezR_takeOperator_J23 hd R v1 x1 h hk_v1 hp
      · refine am_Rn.run am_h46 1 (F' := (28, [(2, .int x1), (0, .ref 55), (1, .ref v1)], [.int 0])) (S' := (am_sh, h, hm, g)) (by rcases hk_v1 with rfl | rfl | rfl | rfl | rfl <;> rfl) ?_
        refine am_Rn.sub [1, 2, 0] rfl rfl ?_
        exact ezR_takeOperator_J28 hd R v1 x1 0 h hk_v1 hp
/-- SixHands$Reader.readLaw(LSixHands$Text;I)V [55, 't'] -/
def zR_readLaw_J138 (v1 : Nat) (v2 : Int32) (h : (Nat → Nat → Int32)) : Option ((Nat → Nat → Int32)) := am_ix 3 (v2 - 3) (am_b (va_up h (v1 + 6) (upd (h (v1 + 6)) ((v2 - 3).toNatClampNeg) (h v1 4))) fun h9 => (zX_addClause v1 v2 0 0 h9).bind fun r10 => some r10)
set_option maxRecDepth 20000 in
theorem ezR_readLaw_J138 {d : Nat} (hd : 4 ≤ d) (R : (Nat → Nat → Int32)) (v1 : Nat) (v2 : Int32) (h : (Nat → Nat → Int32)) (hk_v1 : zK v1) (hp : zR_readLaw_J138 v1 v2 h = some R) : am_Rn 83 Xs am_P d 39 (138, [(1, .ref v1), (2, .int v2)], []) (am_sh, h, hm, g) (none, (am_sh, R, hm, g)) := by
  obtain ⟨d, rfl⟩ : ∃ k, d = k + 1 := ⟨d - 1, by omega⟩
  unfold zR_readLaw_J138 at hp
  refine am_Rn.run am_h39 7 (F' := (149, [(1, .ref v1), (2, .int v2)], [.int (h v1 4), .int (v2 - 3), .ref (v1 + 6)])) (S' := (am_sh, h, hm, g)) (by rcases hk_v1 with rfl | rfl | rfl | rfl | rfl <;> rfl) ?_
  obtain ⟨hn8, hp⟩ := am_ix_e hp
  obtain ⟨h9, h_h9, hp⟩ := am_b_e hp
  refine am_Rn.stepG am_h39 (c := (v2 - 3) < 0 ∨ 3 ≤ (v2 - 3).toNatClampNeg) (F' := (150, [(1, .ref v1), (2, .int v2)], [])) (S' := (am_sh, h9, hm, g)) (by subst h_h9; rcases hk_v1 with rfl | rfl | rfl | rfl | rfl <;> rfl) hn8 ?_
  refine am_Rn.run am_h39 4 (F' := (154, [(1, .ref v1), (2, .int v2)], [.int 0, .int 0, .int v2, .ref v1])) (S' := (am_sh, h9, hm, g)) (by rcases hk_v1 with rfl | rfl | rfl | rfl | rfl <;> rfl) ?_
  obtain ⟨r10, h_r10, hp⟩ := am_bind hp
  refine am_Rn.call am_h39 (mj := 105) (As := [.ref v1, .int v2, .int 0, .int 0]) (F' := (157, [(1, .ref v1), (2, .int v2)], [])) (M' := am_m105) (r := none) (S1 := (am_sh, r10, hm, g)) (by rcases hk_v1 with rfl | rfl | rfl | rfl | rfl <;> rfl) am_h105 rfl (ezX_addClause (by omega) v1 v2 0 0 h9 _ hk_v1 h_r10) ?_
  cases hp
  exact am_Rn.ret am_h39 (by rcases hk_v1 with rfl | rfl | rfl | rfl | rfl <;> rfl)
def zR_readLaw_J118 (k36 : Nat → Int32 → Int32 → Int32 → (Nat → Nat → Int32) → Option ((Nat → Nat → Int32))) (v1 : Nat) (v2 : Int32) (v3 : Int32) (v4 : Int32) (h : (Nat → Nat → Int32)) : Option ((Nat → Nat → Int32)) := if (h 55 1) = 0 then ((zT_advance h).bind fun r18 => k36 v1 v2 v3 (v4 + 1) r18) else (k36 v1 v2 v3 (v4 + 1) h)
set_option maxRecDepth 20000 in
theorem ezR_readLaw_J118 {d : Nat} (hd : 4 ≤ d) (R : (Nat → Nat → Int32)) (k36 : Nat → Int32 → Int32 → Int32 → (Nat → Nat → Int32) → Option ((Nat → Nat → Int32))) (hk36 : ∀ (v1 : Nat) (v2 : Int32) (v3 : Int32) (v4 : Int32) (h : (Nat → Nat → Int32)), zK v1 → k36 v1 v2 v3 v4 h = some R → am_Rn 83 Xs am_P d 39 (36, [(0, .ref 55), (1, .ref v1), (2, .int v2), (3, .int v3), (4, .int v4)], []) (am_sh, h, hm, g) (none, (am_sh, R, hm, g))) (v1 : Nat) (v2 : Int32) (v3 : Int32) (v4 : Int32) (h : (Nat → Nat → Int32)) (hk_v1 : zK v1) (hp : zR_readLaw_J118 k36 v1 v2 v3 v4 h = some R) : am_Rn 83 Xs am_P d 39 (118, [(0, .ref 55), (1, .ref v1), (2, .int v2), (3, .int v3), (4, .int v4)], []) (am_sh, h, hm, g) (none, (am_sh, R, hm, g)) := by
  obtain ⟨d, rfl⟩ : ∃ k, d = k + 1 := ⟨d - 1, by omega⟩
  unfold zR_readLaw_J118 at hp
  refine am_Rn.run am_h39 2 (F' := (122, [(0, .ref 55), (1, .ref v1), (2, .int v2), (3, .int v3), (4, .int v4)], [.int (h 55 1)])) (S' := (am_sh, h, hm, g)) (by rcases hk_v1 with rfl | rfl | rfl | rfl | rfl <;> rfl) ?_
  refine am_Rn.ite am_h39 (c := (h 55 1) = 0) (t := 125) (f := 132) (lv := [(0, .ref 55), (1, .ref v1), (2, .int v2), (3, .int v3), (4, .int v4)]) (st := []) (S' := (am_sh, h, hm, g)) (by rcases hk_v1 with rfl | rfl | rfl | rfl | rfl <;> rfl) hp (fun hc17 hp => ?_) (fun hc17 hp => ?_)
  · refine am_Rn.run am_h39 2 (F' := (129, [(0, .ref 55), (1, .ref v1), (2, .int v2), (3, .int v3), (4, .int v4)], [.ref 56])) (S' := (am_sh, h, hm, g)) (by rcases hk_v1 with rfl | rfl | rfl | rfl | rfl <;> rfl) ?_
    obtain ⟨r18, h_r18, hp⟩ := am_bind hp
    refine am_Rn.call am_h39 (mj := 94) (As := [.ref 56]) (F' := (132, [(0, .ref 55), (1, .ref v1), (2, .int v2), (3, .int v3), (4, .int v4)], [])) (M' := am_m94) (r := none) (S1 := (am_sh, r18, hm, g)) (by rcases hk_v1 with rfl | rfl | rfl | rfl | rfl <;> rfl) am_h94 rfl (ezT_advance (by omega) h _ h_r18) ?_
    refine am_Rn.run am_h39 2 (F' := (36, [(4, .int (v4 + 1)), (0, .ref 55), (1, .ref v1), (2, .int v2), (3, .int v3)], [])) (S' := (am_sh, r18, hm, g)) (by rcases hk_v1 with rfl | rfl | rfl | rfl | rfl <;> rfl) ?_
    refine am_Rn.sub [1, 2, 3, 4, 0] rfl rfl ?_
    exact hk36 v1 v2 v3 (v4 + 1) r18 hk_v1 hp
  · refine am_Rn.run am_h39 2 (F' := (36, [(4, .int (v4 + 1)), (0, .ref 55), (1, .ref v1), (2, .int v2), (3, .int v3)], [])) (S' := (am_sh, h, hm, g)) (by rcases hk_v1 with rfl | rfl | rfl | rfl | rfl <;> rfl) ?_
    refine am_Rn.sub [1, 2, 3, 4, 0] rfl rfl ?_
    exact hk36 v1 v2 v3 (v4 + 1) h hk_v1 hp
def zR_readLaw_J101 (k36 : Nat → Int32 → Int32 → Int32 → (Nat → Nat → Int32) → Option ((Nat → Nat → Int32))) (v1 : Nat) (v2 : Int32) (v3 : Int32) (v4 : Int32) (h : (Nat → Nat → Int32)) : Option ((Nat → Nat → Int32)) := if (h 55 7) = 0 then (zR_readLaw_J118 k36 v1 v2 v3 v4 h) else (am_b (zR_rankOf 38) fun r19 => (zR_settle v1 r19 h).bind fun r20 => zR_readLaw_J118 k36 v1 v2 v3 v4 r20)
set_option maxRecDepth 20000 in
theorem ezR_readLaw_J101 {d : Nat} (hd : 4 ≤ d) (R : (Nat → Nat → Int32)) (k36 : Nat → Int32 → Int32 → Int32 → (Nat → Nat → Int32) → Option ((Nat → Nat → Int32))) (hk36 : ∀ (v1 : Nat) (v2 : Int32) (v3 : Int32) (v4 : Int32) (h : (Nat → Nat → Int32)), zK v1 → k36 v1 v2 v3 v4 h = some R → am_Rn 83 Xs am_P d 39 (36, [(0, .ref 55), (1, .ref v1), (2, .int v2), (3, .int v3), (4, .int v4)], []) (am_sh, h, hm, g) (none, (am_sh, R, hm, g))) (v1 : Nat) (v2 : Int32) (v3 : Int32) (v4 : Int32) (h : (Nat → Nat → Int32)) (hk_v1 : zK v1) (hp : zR_readLaw_J101 k36 v1 v2 v3 v4 h = some R) : am_Rn 83 Xs am_P d 39 (101, [(0, .ref 55), (1, .ref v1), (2, .int v2), (3, .int v3), (4, .int v4)], []) (am_sh, h, hm, g) (none, (am_sh, R, hm, g)) := by
  obtain ⟨d, rfl⟩ : ∃ k, d = k + 1 := ⟨d - 1, by omega⟩
  unfold zR_readLaw_J101 at hp
  refine am_Rn.run am_h39 2 (F' := (105, [(0, .ref 55), (1, .ref v1), (2, .int v2), (3, .int v3), (4, .int v4)], [.int (h 55 7)])) (S' := (am_sh, h, hm, g)) (by rcases hk_v1 with rfl | rfl | rfl | rfl | rfl <;> rfl) ?_
  refine am_Rn.ite am_h39 (c := (h 55 7) = 0) (t := 118) (f := 108) (lv := [(0, .ref 55), (1, .ref v1), (2, .int v2), (3, .int v3), (4, .int v4)]) (st := []) (S' := (am_sh, h, hm, g)) (by rcases hk_v1 with rfl | rfl | rfl | rfl | rfl <;> rfl) hp (fun hc16 hp => ?_) (fun hc16 hp => ?_)
  · exact ezR_readLaw_J118 hd R k36 hk36 v1 v2 v3 v4 h hk_v1 hp
  · refine am_Rn.run am_h39 3 (F' := (112, [(0, .ref 55), (1, .ref v1), (2, .int v2), (3, .int v3), (4, .int v4)], [.int 38, .ref v1, .ref 55])) (S' := (am_sh, h, hm, g)) (by rcases hk_v1 with rfl | rfl | rfl | rfl | rfl <;> rfl) ?_
    obtain ⟨r19, h_r19, hp⟩ := am_b_e hp
    refine am_Rn.call am_h39 (mj := 49) (As := [.int 38]) (F' := (115, [(0, .ref 55), (1, .ref v1), (2, .int v2), (3, .int v3), (4, .int v4)], [.ref v1, .ref 55])) (M' := am_m49) (r := some (.int r19)) (S1 := (am_sh, h, hm, g)) (by rcases hk_v1 with rfl | rfl | rfl | rfl | rfl <;> rfl) am_h49 rfl (by subst h_r19; exact (ezR_rankOf (by omega) 38)) ?_
    obtain ⟨r20, h_r20, hp⟩ := am_bind hp
    refine am_Rn.call am_h39 (mj := 48) (As := [.ref 55, .ref v1, .int r19]) (F' := (118, [(0, .ref 55), (1, .ref v1), (2, .int v2), (3, .int v3), (4, .int v4)], [])) (M' := am_m48) (r := none) (S1 := (am_sh, r20, hm, g)) (by rcases hk_v1 with rfl | rfl | rfl | rfl | rfl <;> rfl) am_h48 rfl (ezR_settle (by omega) v1 r19 h _ hk_v1 h_r20) ?_
    exact ezR_readLaw_J118 hd R k36 hk36 v1 v2 v3 v4 r20 hk_v1 hp
def zR_readLaw_J79 (k36 : Nat → Int32 → Int32 → Int32 → (Nat → Nat → Int32) → Option ((Nat → Nat → Int32))) (v1 : Nat) (v2 : Int32) (v4 : Int32) (s0 : Int32) (h : (Nat → Nat → Int32)) : Option ((Nat → Nat → Int32)) := if (h 55 7) = 0 then ((zR_takeOperand v1 v2 h).bind fun r15 => zR_readLaw_J101 k36 v1 v2 s0 v4 r15) else ((zR_takeOperator v1 h).bind fun r21 => zR_readLaw_J101 k36 v1 v2 s0 v4 r21)
set_option maxRecDepth 20000 in
theorem ezR_readLaw_J79 {d : Nat} (hd : 4 ≤ d) (R : (Nat → Nat → Int32)) (k36 : Nat → Int32 → Int32 → Int32 → (Nat → Nat → Int32) → Option ((Nat → Nat → Int32))) (hk36 : ∀ (v1 : Nat) (v2 : Int32) (v3 : Int32) (v4 : Int32) (h : (Nat → Nat → Int32)), zK v1 → k36 v1 v2 v3 v4 h = some R → am_Rn 83 Xs am_P d 39 (36, [(0, .ref 55), (1, .ref v1), (2, .int v2), (3, .int v3), (4, .int v4)], []) (am_sh, h, hm, g) (none, (am_sh, R, hm, g))) (v1 : Nat) (v2 : Int32) (v4 : Int32) (s0 : Int32) (h : (Nat → Nat → Int32)) (hk_v1 : zK v1) (hp : zR_readLaw_J79 k36 v1 v2 v4 s0 h = some R) : am_Rn 83 Xs am_P d 39 (79, [(0, .ref 55), (1, .ref v1), (2, .int v2), (4, .int v4)], [.int s0]) (am_sh, h, hm, g) (none, (am_sh, R, hm, g)) := by
  obtain ⟨d, rfl⟩ : ∃ k, d = k + 1 := ⟨d - 1, by omega⟩
  unfold zR_readLaw_J79 at hp
  refine am_Rn.run am_h39 3 (F' := (84, [(3, .int s0), (0, .ref 55), (1, .ref v1), (2, .int v2), (4, .int v4)], [.int (h 55 7)])) (S' := (am_sh, h, hm, g)) (by rcases hk_v1 with rfl | rfl | rfl | rfl | rfl <;> rfl) ?_
  refine am_Rn.ite am_h39 (c := (h 55 7) = 0) (t := 95) (f := 87) (lv := [(3, .int s0), (0, .ref 55), (1, .ref v1), (2, .int v2), (4, .int v4)]) (st := []) (S' := (am_sh, h, hm, g)) (by rcases hk_v1 with rfl | rfl | rfl | rfl | rfl <;> rfl) hp (fun hc14 hp => ?_) (fun hc14 hp => ?_)
  · refine am_Rn.run am_h39 3 (F' := (98, [(3, .int s0), (0, .ref 55), (1, .ref v1), (2, .int v2), (4, .int v4)], [.int v2, .ref v1, .ref 55])) (S' := (am_sh, h, hm, g)) (by rcases hk_v1 with rfl | rfl | rfl | rfl | rfl <;> rfl) ?_
    obtain ⟨r15, h_r15, hp⟩ := am_bind hp
    refine am_Rn.call am_h39 (mj := 43) (As := [.ref 55, .ref v1, .int v2]) (F' := (101, [(3, .int s0), (0, .ref 55), (1, .ref v1), (2, .int v2), (4, .int v4)], [])) (M' := am_m43) (r := none) (S1 := (am_sh, r15, hm, g)) (by rcases hk_v1 with rfl | rfl | rfl | rfl | rfl <;> rfl) am_h43 rfl (ezR_takeOperand (by omega) v1 v2 h _ hk_v1 h_r15) ?_
    refine am_Rn.sub [1, 2, 3, 0, 4] rfl rfl ?_
    exact ezR_readLaw_J101 hd R k36 hk36 v1 v2 s0 v4 r15 hk_v1 hp
  · refine am_Rn.run am_h39 2 (F' := (89, [(3, .int s0), (0, .ref 55), (1, .ref v1), (2, .int v2), (4, .int v4)], [.ref v1, .ref 55])) (S' := (am_sh, h, hm, g)) (by rcases hk_v1 with rfl | rfl | rfl | rfl | rfl <;> rfl) ?_
    obtain ⟨r21, h_r21, hp⟩ := am_bind hp
    refine am_Rn.call am_h39 (mj := 46) (As := [.ref 55, .ref v1]) (F' := (92, [(3, .int s0), (0, .ref 55), (1, .ref v1), (2, .int v2), (4, .int v4)], [])) (M' := am_m46) (r := none) (S1 := (am_sh, r21, hm, g)) (by rcases hk_v1 with rfl | rfl | rfl | rfl | rfl <;> rfl) am_h46 rfl (ezR_takeOperator (by omega) v1 h _ hk_v1 h_r21) ?_
    refine am_Rn.run am_h39 1 (F' := (101, [(3, .int s0), (0, .ref 55), (1, .ref v1), (2, .int v2), (4, .int v4)], [])) (S' := (am_sh, r21, hm, g)) (by rcases hk_v1 with rfl | rfl | rfl | rfl | rfl <;> rfl) ?_
    refine am_Rn.sub [1, 2, 3, 0, 4] rfl rfl ?_
    exact ezR_readLaw_J101 hd R k36 hk36 v1 v2 s0 v4 r21 hk_v1 hp
def zR_readLaw_J78 (k36 : Nat → Int32 → Int32 → Int32 → (Nat → Nat → Int32) → Option ((Nat → Nat → Int32))) (v1 : Nat) (v2 : Int32) (v4 : Int32) (h : (Nat → Nat → Int32)) : Option ((Nat → Nat → Int32)) := zR_readLaw_J79 k36 v1 v2 v4 0 h
set_option maxRecDepth 20000 in
theorem ezR_readLaw_J78 {d : Nat} (hd : 4 ≤ d) (R : (Nat → Nat → Int32)) (k36 : Nat → Int32 → Int32 → Int32 → (Nat → Nat → Int32) → Option ((Nat → Nat → Int32))) (hk36 : ∀ (v1 : Nat) (v2 : Int32) (v3 : Int32) (v4 : Int32) (h : (Nat → Nat → Int32)), zK v1 → k36 v1 v2 v3 v4 h = some R → am_Rn 83 Xs am_P d 39 (36, [(0, .ref 55), (1, .ref v1), (2, .int v2), (3, .int v3), (4, .int v4)], []) (am_sh, h, hm, g) (none, (am_sh, R, hm, g))) (v1 : Nat) (v2 : Int32) (v4 : Int32) (h : (Nat → Nat → Int32)) (hk_v1 : zK v1) (hp : zR_readLaw_J78 k36 v1 v2 v4 h = some R) : am_Rn 83 Xs am_P d 39 (78, [(0, .ref 55), (1, .ref v1), (2, .int v2), (4, .int v4)], []) (am_sh, h, hm, g) (none, (am_sh, R, hm, g)) := by
  obtain ⟨d, rfl⟩ : ∃ k, d = k + 1 := ⟨d - 1, by omega⟩
  unfold zR_readLaw_J78 at hp
  refine am_Rn.run am_h39 1 (F' := (79, [(0, .ref 55), (1, .ref v1), (2, .int v2), (4, .int v4)], [.int 0])) (S' := (am_sh, h, hm, g)) (by rcases hk_v1 with rfl | rfl | rfl | rfl | rfl <;> rfl) ?_
  exact ezR_readLaw_J79 hd R k36 hk36 v1 v2 v4 0 h hk_v1 hp
def zR_readLaw_L36 : Nat → Nat → Int32 → Int32 → Int32 → (Nat → Nat → Int32) → Option ((Nat → Nat → Int32))
  | 0, _, _, _, _, _ => none
  | n + 1, v1, v2, v3, v4, h => if 300 < v4 then (zR_readLaw_J138 v1 v2 h) else (if (h 55 1) = 0 then (if v3 = 0 then (if (h 55 7) = 0 then (zR_readLaw_J78 (fun v1 v2 v3 v4 h => zR_readLaw_L36 n v1 v2 v3 v4 h) v1 v2 v4 h) else (if (h 56 3) = 34 then (zR_readLaw_J79 (fun v1 v2 v3 v4 h => zR_readLaw_L36 n v1 v2 v3 v4 h) v1 v2 v4 1 h) else (zR_readLaw_J78 (fun v1 v2 v3 v4 h => zR_readLaw_L36 n v1 v2 v3 v4 h) v1 v2 v4 h))) else (zR_readLaw_J138 v1 v2 h)) else (zR_readLaw_J138 v1 v2 h))
set_option maxRecDepth 20000 in
theorem ezR_readLaw_L36 {d : Nat} (hd : 4 ≤ d) (R : (Nat → Nat → Int32)) : ∀ (n : Nat) (v1 : Nat) (v2 : Int32) (v3 : Int32) (v4 : Int32) (h : (Nat → Nat → Int32)), zK v1 → zR_readLaw_L36 n v1 v2 v3 v4 h = some R → am_Rn 83 Xs am_P d 39 (36, [(0, .ref 55), (1, .ref v1), (2, .int v2), (3, .int v3), (4, .int v4)], []) (am_sh, h, hm, g) (none, (am_sh, R, hm, g))
  | 0, _, _, _, _, _, _, hp => by cases hp
  | n + 1, v1, v2, v3, v4, h, hk_v1, hp => by
    obtain ⟨d, rfl⟩ : ∃ k, d = k + 1 := ⟨d - 1, by omega⟩
    unfold zR_readLaw_L36 at hp
    refine am_Rn.run am_h39 2 (F' := (41, [(0, .ref 55), (1, .ref v1), (2, .int v2), (3, .int v3), (4, .int v4)], [.int 300, .int v4])) (S' := (am_sh, h, hm, g)) (by rcases hk_v1 with rfl | rfl | rfl | rfl | rfl <;> rfl) ?_
    refine am_Rn.ite am_h39 (c := 300 < v4) (t := 138) (f := 44) (lv := [(0, .ref 55), (1, .ref v1), (2, .int v2), (3, .int v3), (4, .int v4)]) (st := []) (S' := (am_sh, h, hm, g)) (by rcases hk_v1 with rfl | rfl | rfl | rfl | rfl <;> rfl) hp (fun hc7 hp => ?_) (fun hc7 hp => ?_)
    · refine am_Rn.sub [1, 2] rfl rfl ?_
      exact ezR_readLaw_J138 hd R v1 v2 h hk_v1 hp
    · refine am_Rn.run am_h39 2 (F' := (48, [(0, .ref 55), (1, .ref v1), (2, .int v2), (3, .int v3), (4, .int v4)], [.int (h 55 1)])) (S' := (am_sh, h, hm, g)) (by rcases hk_v1 with rfl | rfl | rfl | rfl | rfl <;> rfl) ?_
      refine am_Rn.ite am_h39 (c := (h 55 1) = 0) (t := 51) (f := 138) (lv := [(0, .ref 55), (1, .ref v1), (2, .int v2), (3, .int v3), (4, .int v4)]) (st := []) (S' := (am_sh, h, hm, g)) (by rcases hk_v1 with rfl | rfl | rfl | rfl | rfl <;> rfl) hp (fun hc11 hp => ?_) (fun hc11 hp => ?_)
      · refine am_Rn.run am_h39 1 (F' := (52, [(0, .ref 55), (1, .ref v1), (2, .int v2), (3, .int v3), (4, .int v4)], [.int v3])) (S' := (am_sh, h, hm, g)) (by rcases hk_v1 with rfl | rfl | rfl | rfl | rfl <;> rfl) ?_
        refine am_Rn.ite am_h39 (c := v3 = 0) (t := 55) (f := 138) (lv := [(0, .ref 55), (1, .ref v1), (2, .int v2), (3, .int v3), (4, .int v4)]) (st := []) (S' := (am_sh, h, hm, g)) (by rcases hk_v1 with rfl | rfl | rfl | rfl | rfl <;> rfl) hp (fun hc12 hp => ?_) (fun hc12 hp => ?_)
        · refine am_Rn.run am_h39 2 (F' := (59, [(0, .ref 55), (1, .ref v1), (2, .int v2), (3, .int v3), (4, .int v4)], [.int (h 55 7)])) (S' := (am_sh, h, hm, g)) (by rcases hk_v1 with rfl | rfl | rfl | rfl | rfl <;> rfl) ?_
          refine am_Rn.ite am_h39 (c := (h 55 7) = 0) (t := 78) (f := 62) (lv := [(0, .ref 55), (1, .ref v1), (2, .int v2), (3, .int v3), (4, .int v4)]) (st := []) (S' := (am_sh, h, hm, g)) (by rcases hk_v1 with rfl | rfl | rfl | rfl | rfl <;> rfl) hp (fun hc13 hp => ?_) (fun hc13 hp => ?_)
          · refine am_Rn.sub [0, 1, 2, 4] rfl rfl ?_
            exact ezR_readLaw_J78 hd R (fun v1 v2 v3 v4 h => zR_readLaw_L36 n v1 v2 v3 v4 h) (fun v1 v2 v3 v4 h hk_v1 hp => ezR_readLaw_L36 hd R n v1 v2 v3 v4 h hk_v1 hp) v1 v2 v4 h hk_v1 hp
          · refine am_Rn.run am_h39 4 (F' := (71, [(0, .ref 55), (1, .ref v1), (2, .int v2), (3, .int v3), (4, .int v4)], [.int 34, .int (h 56 3)])) (S' := (am_sh, h, hm, g)) (by rcases hk_v1 with rfl | rfl | rfl | rfl | rfl <;> rfl) ?_
            refine am_Rn.ite am_h39 (c := (h 56 3) = 34) (t := 74) (f := 78) (lv := [(0, .ref 55), (1, .ref v1), (2, .int v2), (3, .int v3), (4, .int v4)]) (st := []) (S' := (am_sh, h, hm, g)) (by rcases hk_v1 with rfl | rfl | rfl | rfl | rfl <;> rfl) hp (fun hc22 hp => ?_) (fun hc22 hp => ?_)
            · refine am_Rn.run am_h39 2 (F' := (79, [(0, .ref 55), (1, .ref v1), (2, .int v2), (3, .int v3), (4, .int v4)], [.int 1])) (S' := (am_sh, h, hm, g)) (by rcases hk_v1 with rfl | rfl | rfl | rfl | rfl <;> rfl) ?_
              refine am_Rn.sub [0, 1, 2, 4] rfl rfl ?_
              exact ezR_readLaw_J79 hd R (fun v1 v2 v3 v4 h => zR_readLaw_L36 n v1 v2 v3 v4 h) (fun v1 v2 v3 v4 h hk_v1 hp => ezR_readLaw_L36 hd R n v1 v2 v3 v4 h hk_v1 hp) v1 v2 v4 1 h hk_v1 hp
            · refine am_Rn.sub [0, 1, 2, 4] rfl rfl ?_
              exact ezR_readLaw_J78 hd R (fun v1 v2 v3 v4 h => zR_readLaw_L36 n v1 v2 v3 v4 h) (fun v1 v2 v3 v4 h hk_v1 hp => ezR_readLaw_L36 hd R n v1 v2 v3 v4 h hk_v1 hp) v1 v2 v4 h hk_v1 hp
        · refine am_Rn.sub [1, 2] rfl rfl ?_
          exact ezR_readLaw_J138 hd R v1 v2 h hk_v1 hp
      · refine am_Rn.sub [1, 2] rfl rfl ?_
        exact ezR_readLaw_J138 hd R v1 v2 h hk_v1 hp
def zR_readLaw (v1 : Nat) (v2 : Int32) (h : (Nat → Nat → Int32)) : Option ((Nat → Nat → Int32)) := am_ix 3 (v2 - 3) (am_b (va_up h (v1 + 5) (upd (h (v1 + 5)) ((v2 - 3).toNatClampNeg) (h v1 4))) fun h2 => am_b (va_up h2 55 (upd (h2 55) 4 0)) fun h3 => am_b (va_up h3 55 (upd (h3 55) 5 0)) fun h4 => am_b (va_up h4 55 (upd (h4 55) 6 0)) fun h5 => am_b (zR_beginAsk h5) fun r6 => zR_readLaw_L36 am_N v1 v2 0 0 r6)
set_option maxRecDepth 20000 in
theorem ezR_readLaw {d : Nat} (hd : 4 ≤ d) (v1 : Nat) (v2 : Int32) (h : (Nat → Nat → Int32)) (R : (Nat → Nat → Int32)) (hk_v1 : zK v1) (hp : zR_readLaw v1 v2 h = some R) : am_Ev 83 Xs am_P d 39 [.ref 55, .ref v1, .int v2] (am_sh, h, hm, g) (none, (am_sh, R, hm, g)) := by
  obtain ⟨d, rfl⟩ : ∃ k, d = k + 1 := ⟨d - 1, by omega⟩
  unfold zR_readLaw at hp
  show am_Rn 83 Xs am_P _ 39 (0, [(0, .ref 55), (1, .ref v1), (2, .int v2)], []) _ _
  refine am_Rn.run am_h39 7 (F' := (11, [(0, .ref 55), (1, .ref v1), (2, .int v2)], [.int (h v1 4), .int (v2 - 3), .ref (v1 + 5)])) (S' := (am_sh, h, hm, g)) (by rcases hk_v1 with rfl | rfl | rfl | rfl | rfl <;> rfl) ?_
  obtain ⟨hn1, hp⟩ := am_ix_e hp
  obtain ⟨h2, h_h2, hp⟩ := am_b_e hp
  refine am_Rn.stepG am_h39 (c := (v2 - 3) < 0 ∨ 3 ≤ (v2 - 3).toNatClampNeg) (F' := (12, [(0, .ref 55), (1, .ref v1), (2, .int v2)], [])) (S' := (am_sh, h2, hm, g)) (by subst h_h2; rcases hk_v1 with rfl | rfl | rfl | rfl | rfl <;> rfl) hn1 ?_
  obtain ⟨h3, h_h3, hp⟩ := am_b_e hp
  obtain ⟨h4, h_h4, hp⟩ := am_b_e hp
  obtain ⟨h5, h_h5, hp⟩ := am_b_e hp
  refine am_Rn.run am_h39 10 (F' := (28, [(0, .ref 55), (1, .ref v1), (2, .int v2)], [.ref 55])) (S' := (am_sh, h5, hm, g)) (by subst h_h3; subst h_h4; subst h_h5; rcases hk_v1 with rfl | rfl | rfl | rfl | rfl <;> rfl) ?_
  obtain ⟨r6, h_r6, hp⟩ := am_b_e hp
  refine am_Rn.call am_h39 (mj := 40) (As := [.ref 55]) (F' := (31, [(0, .ref 55), (1, .ref v1), (2, .int v2)], [])) (M' := am_m40) (r := none) (S1 := (am_sh, r6, hm, g)) (by rcases hk_v1 with rfl | rfl | rfl | rfl | rfl <;> rfl) am_h40 rfl (by subst h_r6; exact (ezR_beginAsk (by omega) h5)) ?_
  refine am_Rn.run am_h39 4 (F' := (36, [(4, .int 0), (3, .int 0), (0, .ref 55), (1, .ref v1), (2, .int v2)], [])) (S' := (am_sh, r6, hm, g)) (by rcases hk_v1 with rfl | rfl | rfl | rfl | rfl <;> rfl) ?_
  refine am_Rn.sub [2, 3, 4, 1, 0] rfl rfl ?_
  exact ezR_readLaw_L36 hd R am_N v1 v2 0 0 r6 hk_v1 hp
/-- SixHands$Reader.read(LSixHands$Text;)V [55, 't'] -/
def zR_read_L23 : Nat → Nat → Int32 → (Nat → Nat → Int32) → Option ((Nat → Nat → Int32))
  | 0, _, _, _ => none
  | n + 1, v1, v2, h => if 50 < v2 then (some h) else (if (h 55 1) = 0 then (if (h 56 3) = 36 then (some h) else (am_b (h 56 3) fun x8 => (zR_faultOfVerb v1 x8 h).bind fun r9 => if r9 = 0 then (am_b (zR_isLaw x8) fun r11 => if r11 = 0 then ((zT_advance h).bind fun r13 => (zR_readDeed v1 x8 r13).bind fun r14 => zR_read_L23 n v1 (v2 + 1) r14) else ((zT_advance h).bind fun r15 => (zR_readLaw v1 x8 r15).bind fun r16 => zR_read_L23 n v1 (v2 + 1) r16)) else (am_b (zR_refuse r9 h) fun r17 => zR_read_L23 n v1 (v2 + 1) r17))) else (some h))
set_option maxRecDepth 20000 in
theorem ezR_read_L23 {d : Nat} (hd : 5 ≤ d) (R : (Nat → Nat → Int32)) : ∀ (n : Nat) (v1 : Nat) (v2 : Int32) (h : (Nat → Nat → Int32)), zK v1 → zR_read_L23 n v1 v2 h = some R → am_Rn 83 Xs am_P d 32 (23, [(0, .ref 55), (1, .ref v1), (2, .int v2)], []) (am_sh, h, hm, g) (none, (am_sh, R, hm, g))
  | 0, _, _, _, _, hp => by cases hp
  | n + 1, v1, v2, h, hk_v1, hp => by
    obtain ⟨d, rfl⟩ : ∃ k, d = k + 1 := ⟨d - 1, by omega⟩
    unfold zR_read_L23 at hp
    refine am_Rn.run am_h32 2 (F' := (26, [(0, .ref 55), (1, .ref v1), (2, .int v2)], [.int 50, .int v2])) (S' := (am_sh, h, hm, g)) (by rcases hk_v1 with rfl | rfl | rfl | rfl | rfl <;> rfl) ?_
    refine am_Rn.ite am_h32 (c := 50 < v2) (t := 119) (f := 29) (lv := [(0, .ref 55), (1, .ref v1), (2, .int v2)]) (st := []) (S' := (am_sh, h, hm, g)) (by rcases hk_v1 with rfl | rfl | rfl | rfl | rfl <;> rfl) hp (fun hc5 hp => ?_) (fun hc5 hp => ?_)
    · cases hp
      exact am_Rn.ret am_h32 (by rcases hk_v1 with rfl | rfl | rfl | rfl | rfl <;> rfl)
    · refine am_Rn.run am_h32 2 (F' := (33, [(0, .ref 55), (1, .ref v1), (2, .int v2)], [.int (h 55 1)])) (S' := (am_sh, h, hm, g)) (by rcases hk_v1 with rfl | rfl | rfl | rfl | rfl <;> rfl) ?_
      refine am_Rn.ite am_h32 (c := (h 55 1) = 0) (t := 36) (f := 119) (lv := [(0, .ref 55), (1, .ref v1), (2, .int v2)]) (st := []) (S' := (am_sh, h, hm, g)) (by rcases hk_v1 with rfl | rfl | rfl | rfl | rfl <;> rfl) hp (fun hc6 hp => ?_) (fun hc6 hp => ?_)
      · refine am_Rn.run am_h32 4 (F' := (45, [(0, .ref 55), (1, .ref v1), (2, .int v2)], [.int 36, .int (h 56 3)])) (S' := (am_sh, h, hm, g)) (by rcases hk_v1 with rfl | rfl | rfl | rfl | rfl <;> rfl) ?_
        refine am_Rn.ite am_h32 (c := (h 56 3) = 36) (t := 119) (f := 48) (lv := [(0, .ref 55), (1, .ref v1), (2, .int v2)]) (st := []) (S' := (am_sh, h, hm, g)) (by rcases hk_v1 with rfl | rfl | rfl | rfl | rfl <;> rfl) hp (fun hc7 hp => ?_) (fun hc7 hp => ?_)
        · cases hp
          exact am_Rn.ret am_h32 (by rcases hk_v1 with rfl | rfl | rfl | rfl | rfl <;> rfl)
        · obtain ⟨x8, h_x8, hp⟩ := am_b_e hp
          refine am_Rn.run am_h32 6 (F' := (58, [(3, .int x8), (0, .ref 55), (1, .ref v1), (2, .int v2)], [.int x8, .ref v1])) (S' := (am_sh, h, hm, g)) (by subst h_x8; rcases hk_v1 with rfl | rfl | rfl | rfl | rfl <;> rfl) ?_
          obtain ⟨r9, h_r9, hp⟩ := am_bind hp
          refine am_Rn.call am_h32 (mj := 35) (As := [.ref v1, .int x8]) (F' := (61, [(3, .int x8), (0, .ref 55), (1, .ref v1), (2, .int v2)], [])) (M' := am_m35) (r := some (.int r9)) (S1 := (am_sh, h, hm, g)) (by rcases hk_v1 with rfl | rfl | rfl | rfl | rfl <;> rfl) am_h35 rfl (ezR_faultOfVerb (by omega) v1 x8 h _ hk_v1 h_r9) ?_
          refine am_Rn.run am_h32 2 (F' := (65, [(4, .int r9), (3, .int x8), (0, .ref 55), (1, .ref v1), (2, .int v2)], [.int r9])) (S' := (am_sh, h, hm, g)) (by rcases hk_v1 with rfl | rfl | rfl | rfl | rfl <;> rfl) ?_
          refine am_Rn.ite am_h32 (c := r9 = 0) (t := 77) (f := 68) (lv := [(4, .int r9), (3, .int x8), (0, .ref 55), (1, .ref v1), (2, .int v2)]) (st := []) (S' := (am_sh, h, hm, g)) (by rcases hk_v1 with rfl | rfl | rfl | rfl | rfl <;> rfl) hp (fun hc10 hp => ?_) (fun hc10 hp => ?_)
          · refine am_Rn.run am_h32 1 (F' := (78, [(4, .int r9), (3, .int x8), (0, .ref 55), (1, .ref v1), (2, .int v2)], [.int x8])) (S' := (am_sh, h, hm, g)) (by rcases hk_v1 with rfl | rfl | rfl | rfl | rfl <;> rfl) ?_
            obtain ⟨r11, h_r11, hp⟩ := am_b_e hp
            refine am_Rn.call am_h32 (mj := 34) (As := [.int x8]) (F' := (81, [(4, .int r9), (3, .int x8), (0, .ref 55), (1, .ref v1), (2, .int v2)], [])) (M' := am_m34) (r := some (.int r11)) (S1 := (am_sh, h, hm, g)) (by rcases hk_v1 with rfl | rfl | rfl | rfl | rfl <;> rfl) am_h34 rfl (by subst h_r11; exact (ezR_isLaw (by omega) x8)) ?_
            refine am_Rn.ite am_h32 (c := r11 = 0) (t := 100) (f := 84) (lv := [(4, .int r9), (3, .int x8), (0, .ref 55), (1, .ref v1), (2, .int v2)]) (st := []) (S' := (am_sh, h, hm, g)) (by rcases hk_v1 with rfl | rfl | rfl | rfl | rfl <;> rfl) hp (fun hc12 hp => ?_) (fun hc12 hp => ?_)
            · refine am_Rn.run am_h32 2 (F' := (104, [(4, .int r9), (3, .int x8), (0, .ref 55), (1, .ref v1), (2, .int v2)], [.ref 56])) (S' := (am_sh, h, hm, g)) (by rcases hk_v1 with rfl | rfl | rfl | rfl | rfl <;> rfl) ?_
              obtain ⟨r13, h_r13, hp⟩ := am_bind hp
              refine am_Rn.call am_h32 (mj := 94) (As := [.ref 56]) (F' := (107, [(4, .int r9), (3, .int x8), (0, .ref 55), (1, .ref v1), (2, .int v2)], [])) (M' := am_m94) (r := none) (S1 := (am_sh, r13, hm, g)) (by rcases hk_v1 with rfl | rfl | rfl | rfl | rfl <;> rfl) am_h94 rfl (ezT_advance (by omega) h _ h_r13) ?_
              refine am_Rn.run am_h32 3 (F' := (110, [(4, .int r9), (3, .int x8), (0, .ref 55), (1, .ref v1), (2, .int v2)], [.int x8, .ref v1, .ref 55])) (S' := (am_sh, r13, hm, g)) (by rcases hk_v1 with rfl | rfl | rfl | rfl | rfl <;> rfl) ?_
              obtain ⟨r14, h_r14, hp⟩ := am_bind hp
              refine am_Rn.call am_h32 (mj := 36) (As := [.ref 55, .ref v1, .int x8]) (F' := (113, [(4, .int r9), (3, .int x8), (0, .ref 55), (1, .ref v1), (2, .int v2)], [])) (M' := am_m36) (r := none) (S1 := (am_sh, r14, hm, g)) (by rcases hk_v1 with rfl | rfl | rfl | rfl | rfl <;> rfl) am_h36 rfl (ezR_readDeed (by omega) v1 x8 r13 _ hk_v1 h_r14) ?_
              refine am_Rn.run am_h32 2 (F' := (23, [(2, .int (v2 + 1)), (4, .int r9), (3, .int x8), (0, .ref 55), (1, .ref v1)], [])) (S' := (am_sh, r14, hm, g)) (by rcases hk_v1 with rfl | rfl | rfl | rfl | rfl <;> rfl) ?_
              refine am_Rn.sub [3, 4, 0] rfl rfl ?_
              exact ezR_read_L23 hd R n v1 (v2 + 1) r14 hk_v1 hp
            · refine am_Rn.run am_h32 2 (F' := (88, [(4, .int r9), (3, .int x8), (0, .ref 55), (1, .ref v1), (2, .int v2)], [.ref 56])) (S' := (am_sh, h, hm, g)) (by rcases hk_v1 with rfl | rfl | rfl | rfl | rfl <;> rfl) ?_
              obtain ⟨r15, h_r15, hp⟩ := am_bind hp
              refine am_Rn.call am_h32 (mj := 94) (As := [.ref 56]) (F' := (91, [(4, .int r9), (3, .int x8), (0, .ref 55), (1, .ref v1), (2, .int v2)], [])) (M' := am_m94) (r := none) (S1 := (am_sh, r15, hm, g)) (by rcases hk_v1 with rfl | rfl | rfl | rfl | rfl <;> rfl) am_h94 rfl (ezT_advance (by omega) h _ h_r15) ?_
              refine am_Rn.run am_h32 3 (F' := (94, [(4, .int r9), (3, .int x8), (0, .ref 55), (1, .ref v1), (2, .int v2)], [.int x8, .ref v1, .ref 55])) (S' := (am_sh, r15, hm, g)) (by rcases hk_v1 with rfl | rfl | rfl | rfl | rfl <;> rfl) ?_
              obtain ⟨r16, h_r16, hp⟩ := am_bind hp
              refine am_Rn.call am_h32 (mj := 39) (As := [.ref 55, .ref v1, .int x8]) (F' := (97, [(4, .int r9), (3, .int x8), (0, .ref 55), (1, .ref v1), (2, .int v2)], [])) (M' := am_m39) (r := none) (S1 := (am_sh, r16, hm, g)) (by rcases hk_v1 with rfl | rfl | rfl | rfl | rfl <;> rfl) am_h39 rfl (ezR_readLaw (by omega) v1 x8 r15 _ hk_v1 h_r16) ?_
              refine am_Rn.run am_h32 3 (F' := (23, [(2, .int (v2 + 1)), (4, .int r9), (3, .int x8), (0, .ref 55), (1, .ref v1)], [])) (S' := (am_sh, r16, hm, g)) (by rcases hk_v1 with rfl | rfl | rfl | rfl | rfl <;> rfl) ?_
              refine am_Rn.sub [3, 4, 0] rfl rfl ?_
              exact ezR_read_L23 hd R n v1 (v2 + 1) r16 hk_v1 hp
          · refine am_Rn.run am_h32 2 (F' := (71, [(4, .int r9), (3, .int x8), (0, .ref 55), (1, .ref v1), (2, .int v2)], [.int r9, .ref 55])) (S' := (am_sh, h, hm, g)) (by rcases hk_v1 with rfl | rfl | rfl | rfl | rfl <;> rfl) ?_
            obtain ⟨r17, h_r17, hp⟩ := am_b_e hp
            refine am_Rn.call am_h32 (mj := 33) (As := [.ref 55, .int r9]) (F' := (74, [(4, .int r9), (3, .int x8), (0, .ref 55), (1, .ref v1), (2, .int v2)], [])) (M' := am_m33) (r := none) (S1 := (am_sh, r17, hm, g)) (by rcases hk_v1 with rfl | rfl | rfl | rfl | rfl <;> rfl) am_h33 rfl (by subst h_r17; exact (ezR_refuse (by omega) r9 h)) ?_
            refine am_Rn.run am_h32 3 (F' := (23, [(2, .int (v2 + 1)), (4, .int r9), (3, .int x8), (0, .ref 55), (1, .ref v1)], [])) (S' := (am_sh, r17, hm, g)) (by rcases hk_v1 with rfl | rfl | rfl | rfl | rfl <;> rfl) ?_
            refine am_Rn.sub [3, 4, 0] rfl rfl ?_
            exact ezR_read_L23 hd R n v1 (v2 + 1) r17 hk_v1 hp
      · cases hp
        exact am_Rn.ret am_h32 (by rcases hk_v1 with rfl | rfl | rfl | rfl | rfl <;> rfl)
def zR_read (v1 : Nat) (h : (Nat → Nat → Int32)) : Option ((Nat → Nat → Int32)) := am_b (zX_empty v1 h) fun r1 => am_b (va_up r1 55 (upd (r1 55) 1 0)) fun h2 => am_b (va_up h2 55 (upd (h2 55) 2 (-1))) fun h3 => (zT_rewind h3).bind fun r4 => zR_read_L23 am_N v1 0 r4
set_option maxRecDepth 20000 in
theorem ezR_read {d : Nat} (hd : 5 ≤ d) (v1 : Nat) (h : (Nat → Nat → Int32)) (R : (Nat → Nat → Int32)) (hk_v1 : zK v1) (hp : zR_read v1 h = some R) : am_Ev 83 Xs am_P d 32 [.ref 55, .ref v1] (am_sh, h, hm, g) (none, (am_sh, R, hm, g)) := by
  obtain ⟨d, rfl⟩ : ∃ k, d = k + 1 := ⟨d - 1, by omega⟩
  unfold zR_read at hp
  show am_Rn 83 Xs am_P _ 32 (0, [(0, .ref 55), (1, .ref v1)], []) _ _
  refine am_Rn.run am_h32 1 (F' := (1, [(0, .ref 55), (1, .ref v1)], [.ref v1])) (S' := (am_sh, h, hm, g)) (by rcases hk_v1 with rfl | rfl | rfl | rfl | rfl <;> rfl) ?_
  obtain ⟨r1, h_r1, hp⟩ := am_b_e hp
  refine am_Rn.call am_h32 (mj := 103) (As := [.ref v1]) (F' := (4, [(0, .ref 55), (1, .ref v1)], [])) (M' := am_m103) (r := none) (S1 := (am_sh, r1, hm, g)) (by rcases hk_v1 with rfl | rfl | rfl | rfl | rfl <;> rfl) am_h103 rfl (by subst h_r1; exact (ezX_empty (by omega) v1 h hk_v1)) ?_
  obtain ⟨h2, h_h2, hp⟩ := am_b_e hp
  obtain ⟨h3, h_h3, hp⟩ := am_b_e hp
  refine am_Rn.run am_h32 8 (F' := (18, [(0, .ref 55), (1, .ref v1)], [.ref 56])) (S' := (am_sh, h3, hm, g)) (by subst h_h2; subst h_h3; rcases hk_v1 with rfl | rfl | rfl | rfl | rfl <;> rfl) ?_
  obtain ⟨r4, h_r4, hp⟩ := am_bind hp
  refine am_Rn.call am_h32 (mj := 93) (As := [.ref 56]) (F' := (21, [(0, .ref 55), (1, .ref v1)], [])) (M' := am_m93) (r := none) (S1 := (am_sh, r4, hm, g)) (by rcases hk_v1 with rfl | rfl | rfl | rfl | rfl <;> rfl) am_h93 rfl (ezT_rewind (by omega) h3 _ h_r4) ?_
  refine am_Rn.run am_h32 2 (F' := (23, [(2, .int 0), (0, .ref 55), (1, .ref v1)], [])) (S' := (am_sh, r4, hm, g)) (by rcases hk_v1 with rfl | rfl | rfl | rfl | rfl <;> rfl) ?_
  refine am_Rn.sub [1, 2, 0] rfl rfl ?_
  exact ezR_read_L23 hd R am_N v1 0 r4 hk_v1 hp
/-- SixHands.text()I [0] -/
def zH_text (h : (Nat → Nat → Int32)) : Option (Int32 × (Nat → Nat → Int32)) := if (h 1 11) < 4 then (am_b (h 1 11) fun x2 => am_ix 5 x2 (am_b (20 + 7 * x2.toNatClampNeg) fun k4 => (zR_read k4 h).bind fun r5 => am_b (va_up r5 56 (upd (r5 56) 1 0)) fun h6 => if (h6 55 1) = 0 then (am_b (h6 1 11) fun x8 => am_b (va_up h6 1 (upd (h6 1) 11 (x8 + 1))) fun h9 => some ((x8, h9))) else (some (((-1), h6))))) else (some (((-1), h)))
set_option maxRecDepth 20000 in
theorem ezH_text {d : Nat} (hd : 6 ≤ d) (h : (Nat → Nat → Int32)) (R : Int32 × (Nat → Nat → Int32)) (hp : zH_text h = some R) : am_Ev 83 Xs am_P d 113 [.ref 0] (am_sh, h, hm, g) (some (.int R.1), (am_sh, R.2, hm, g)) := by
  obtain ⟨d, rfl⟩ : ∃ k, d = k + 1 := ⟨d - 1, by omega⟩
  unfold zH_text at hp
  show am_Rn 83 Xs am_P _ 113 (0, [(0, .ref 0)], []) _ _
  refine am_Rn.run am_h113 4 (F' := (8, [(0, .ref 0)], [.int 4, .int (h 1 11)])) (S' := (am_sh, h, hm, g)) rfl ?_
  refine am_Rn.ite am_h113 (c := (h 1 11) < 4) (t := 13) (f := 11) (lv := [(0, .ref 0)]) (st := []) (S' := (am_sh, h, hm, g)) rfl hp (fun hc1 hp => ?_) (fun hc1 hp => ?_)
  · obtain ⟨x2, h_x2, hp⟩ := am_b_e hp
    refine am_Rn.run am_h113 7 (F' := (28, [(0, .ref 0)], [.int x2, .ref 19, .ref 55])) (S' := (am_sh, h, hm, g)) (by subst h_x2; rfl) ?_
    obtain ⟨hn3, hp⟩ := am_ix_e hp
    obtain ⟨k4, h_k4, hp⟩ := am_b_e hp
    have hk_k4 := zK_of hn3 h_k4
    refine am_Rn.step am_h113 (F' := (29, [(0, .ref 0)], [.ref k4, .ref 55])) (S' := (am_sh, h, hm, g)) (by subst h_k4; rcases am_five hn3 with rfl | rfl | rfl | rfl | rfl <;> rfl) ?_
    obtain ⟨r5, h_r5, hp⟩ := am_bind hp
    refine am_Rn.call am_h113 (mj := 32) (As := [.ref 55, .ref k4]) (F' := (32, [(0, .ref 0)], [])) (M' := am_m32) (r := none) (S1 := (am_sh, r5, hm, g)) (by rcases hk_k4 with rfl | rfl | rfl | rfl | rfl <;> rfl) am_h32 rfl (ezR_read (by omega) k4 h _ hk_k4 h_r5) ?_
    obtain ⟨h6, h_h6, hp⟩ := am_b_e hp
    refine am_Rn.run am_h113 8 (F' := (50, [(0, .ref 0)], [.int (h6 55 1)])) (S' := (am_sh, h6, hm, g)) (by subst h_h6; rcases hk_k4 with rfl | rfl | rfl | rfl | rfl <;> rfl) ?_
    refine am_Rn.ite am_h113 (c := (h6 55 1) = 0) (t := 55) (f := 53) (lv := [(0, .ref 0)]) (st := []) (S' := (am_sh, h6, hm, g)) (by rcases hk_k4 with rfl | rfl | rfl | rfl | rfl <;> rfl) hp (fun hc7 hp => ?_) (fun hc7 hp => ?_)
    · obtain ⟨x8, h_x8, hp⟩ := am_b_e hp
      obtain ⟨h9, h_h9, hp⟩ := am_b_e hp
      refine am_Rn.run am_h113 8 (F' := (69, [(0, .ref 0)], [.int x8])) (S' := (am_sh, h9, hm, g)) (by subst h_x8; subst h_h9; rcases hk_k4 with rfl | rfl | rfl | rfl | rfl <;> rfl) ?_
      cases hp
      exact am_Rn.ret am_h113 (by rcases hk_k4 with rfl | rfl | rfl | rfl | rfl <;> rfl)
    · refine am_Rn.run am_h113 1 (F' := (54, [(0, .ref 0)], [.int (-1)])) (S' := (am_sh, h6, hm, g)) (by rcases hk_k4 with rfl | rfl | rfl | rfl | rfl <;> rfl) ?_
      cases hp
      exact am_Rn.ret am_h113 (by rcases hk_k4 with rfl | rfl | rfl | rfl | rfl <;> rfl)
  · refine am_Rn.run am_h113 1 (F' := (12, [(0, .ref 0)], [.int (-1)])) (S' := (am_sh, h, hm, g)) rfl ?_
    cases hp
    exact am_Rn.ret am_h113 rfl
/-- SixHands.fault(I)I [0] -/
def zH_fault (v1 : Int32) (h : (Nat → Nat → Int32)) : Int32 := if v1 = 0 then (h 55 1) else (if v1 = 1 then (h 55 2) else ((-1)))
set_option maxRecDepth 20000 in
theorem ezH_fault {d : Nat} (hd : 0 ≤ d) (v1 : Int32) (h : (Nat → Nat → Int32)) : am_Ev 83 Xs am_P d 114 [.ref 0, .int v1] (am_sh, h, hm, g) (some (.int ((zH_fault v1 h))), (am_sh, h, hm, g)) := by
  obtain ⟨R, hp⟩ : ∃ R, zH_fault v1 h = R := ⟨_, rfl⟩
  rw [hp]
  unfold zH_fault at hp
  show am_Rn 83 Xs am_P _ 114 (0, [(0, .ref 0), (1, .int v1)], []) _ _
  refine am_Rn.run am_h114 1 (F' := (1, [(0, .ref 0), (1, .int v1)], [.int v1])) (S' := (am_sh, h, hm, g)) rfl ?_
  refine am_Rn.ite am_h114 (c := v1 = 0) (t := 4) (f := 12) (lv := [(0, .ref 0), (1, .int v1)]) (st := []) (S' := (am_sh, h, hm, g)) rfl hp (fun hc1 hp => ?_) (fun hc1 hp => ?_)
  · refine am_Rn.run am_h114 3 (F' := (11, [(0, .ref 0), (1, .int v1)], [.int (h 55 1)])) (S' := (am_sh, h, hm, g)) rfl ?_
    subst hp
    exact am_Rn.ret am_h114 rfl
  · refine am_Rn.run am_h114 2 (F' := (14, [(0, .ref 0), (1, .int v1)], [.int 1, .int v1])) (S' := (am_sh, h, hm, g)) rfl ?_
    refine am_Rn.ite am_h114 (c := v1 = 1) (t := 17) (f := 27) (lv := [(0, .ref 0), (1, .int v1)]) (st := []) (S' := (am_sh, h, hm, g)) rfl hp (fun hc2 hp => ?_) (fun hc2 hp => ?_)
    · refine am_Rn.run am_h114 4 (F' := (28, [(0, .ref 0), (1, .int v1)], [.int (h 55 2)])) (S' := (am_sh, h, hm, g)) rfl ?_
      subst hp
      exact am_Rn.ret am_h114 rfl
    · refine am_Rn.run am_h114 1 (F' := (28, [(0, .ref 0), (1, .int v1)], [.int (-1)])) (S' := (am_sh, h, hm, g)) rfl ?_
      subst hp
      exact am_Rn.ret am_h114 rfl
/-- SixHands.isText(I)Z [0] -/
def zH_isText (v1 : Int32) (h : (Nat → Nat → Int32)) : Int32 := if v1 < 0 then (0) else (if v1 < (h 1 11) then (1) else (0))
set_option maxRecDepth 20000 in
theorem ezH_isText {d : Nat} (hd : 0 ≤ d) (v1 : Int32) (h : (Nat → Nat → Int32)) : am_Ev 83 Xs am_P d 137 [.ref 0, .int v1] (am_sh, h, hm, g) (some (.int ((zH_isText v1 h))), (am_sh, h, hm, g)) := by
  obtain ⟨R, hp⟩ : ∃ R, zH_isText v1 h = R := ⟨_, rfl⟩
  rw [hp]
  unfold zH_isText at hp
  show am_Rn 83 Xs am_P _ 137 (0, [(0, .ref 0), (1, .int v1)], []) _ _
  refine am_Rn.run am_h137 1 (F' := (1, [(0, .ref 0), (1, .int v1)], [.int v1])) (S' := (am_sh, h, hm, g)) rfl ?_
  refine am_Rn.ite am_h137 (c := v1 < 0) (t := 19) (f := 4) (lv := [(0, .ref 0), (1, .int v1)]) (st := []) (S' := (am_sh, h, hm, g)) rfl hp (fun hc1 hp => ?_) (fun hc1 hp => ?_)
  · refine am_Rn.run am_h137 1 (F' := (20, [(0, .ref 0), (1, .int v1)], [.int 0])) (S' := (am_sh, h, hm, g)) rfl ?_
    subst hp
    exact am_Rn.ret am_h137 rfl
  · refine am_Rn.run am_h137 4 (F' := (12, [(0, .ref 0), (1, .int v1)], [.int (h 1 11), .int v1])) (S' := (am_sh, h, hm, g)) rfl ?_
    refine am_Rn.ite am_h137 (c := v1 < (h 1 11)) (t := 15) (f := 19) (lv := [(0, .ref 0), (1, .int v1)]) (st := []) (S' := (am_sh, h, hm, g)) rfl hp (fun hc2 hp => ?_) (fun hc2 hp => ?_)
    · refine am_Rn.run am_h137 2 (F' := (20, [(0, .ref 0), (1, .int v1)], [.int 1])) (S' := (am_sh, h, hm, g)) rfl ?_
      subst hp
      exact am_Rn.ret am_h137 rfl
    · refine am_Rn.run am_h137 1 (F' := (20, [(0, .ref 0), (1, .int v1)], [.int 0])) (S' := (am_sh, h, hm, g)) rfl ?_
      subst hp
      exact am_Rn.ret am_h137 rfl
/-- SixHands.by(I)Z [0] -/
def zH_by_J15 (v1 : Int32) (h : (Nat → Nat → Int32)) : Option (Int32 × (Nat → Nat → Int32)) := (zH_changed h).bind fun r2 => am_b (va_up r2 1 (upd (r2 1) 12 v1)) fun h3 => some ((1, h3))
set_option maxRecDepth 20000 in
theorem ezH_by_J15 {d : Nat} (hd : 2 ≤ d) (R : Int32 × (Nat → Nat → Int32)) (v1 : Int32) (h : (Nat → Nat → Int32)) (hp : zH_by_J15 v1 h = some R) : am_Rn 83 Xs am_P d 115 (15, [(0, .ref 0), (1, .int v1)], []) (am_sh, h, hm, g) (some (.int R.1), (am_sh, R.2, hm, g)) := by
  obtain ⟨d, rfl⟩ : ∃ k, d = k + 1 := ⟨d - 1, by omega⟩
  unfold zH_by_J15 at hp
  refine am_Rn.run am_h115 1 (F' := (16, [(0, .ref 0), (1, .int v1)], [.ref 0])) (S' := (am_sh, h, hm, g)) rfl ?_
  obtain ⟨r2, h_r2, hp⟩ := am_bind hp
  refine am_Rn.call am_h115 (mj := 141) (As := [.ref 0]) (F' := (19, [(0, .ref 0), (1, .int v1)], [])) (M' := am_m141) (r := none) (S1 := (am_sh, r2, hm, g)) rfl am_h141 rfl (ezH_changed (by omega) h _ h_r2) ?_
  obtain ⟨h3, h_h3, hp⟩ := am_b_e hp
  refine am_Rn.run am_h115 5 (F' := (28, [(0, .ref 0), (1, .int v1)], [.int 1])) (S' := (am_sh, h3, hm, g)) (by subst h_h3; rfl) ?_
  cases hp
  exact am_Rn.ret am_h115 rfl
def zH_by (v1 : Int32) (h : (Nat → Nat → Int32)) : Option (Int32 × (Nat → Nat → Int32)) := if v1 = (-1) then (zH_by_J15 v1 h) else (am_b (zH_isText v1 h) fun r4 => if r4 = 0 then (some ((0, h))) else (zH_by_J15 v1 h))
set_option maxRecDepth 20000 in
theorem ezH_by {d : Nat} (hd : 2 ≤ d) (v1 : Int32) (h : (Nat → Nat → Int32)) (R : Int32 × (Nat → Nat → Int32)) (hp : zH_by v1 h = some R) : am_Ev 83 Xs am_P d 115 [.ref 0, .int v1] (am_sh, h, hm, g) (some (.int R.1), (am_sh, R.2, hm, g)) := by
  obtain ⟨d, rfl⟩ : ∃ k, d = k + 1 := ⟨d - 1, by omega⟩
  unfold zH_by at hp
  show am_Rn 83 Xs am_P _ 115 (0, [(0, .ref 0), (1, .int v1)], []) _ _
  refine am_Rn.run am_h115 2 (F' := (2, [(0, .ref 0), (1, .int v1)], [.int (-1), .int v1])) (S' := (am_sh, h, hm, g)) rfl ?_
  refine am_Rn.ite am_h115 (c := v1 = (-1)) (t := 15) (f := 5) (lv := [(0, .ref 0), (1, .int v1)]) (st := []) (S' := (am_sh, h, hm, g)) rfl hp (fun hc1 hp => ?_) (fun hc1 hp => ?_)
  · exact ezH_by_J15 hd R v1 h hp
  · refine am_Rn.run am_h115 2 (F' := (7, [(0, .ref 0), (1, .int v1)], [.int v1, .ref 0])) (S' := (am_sh, h, hm, g)) rfl ?_
    obtain ⟨r4, h_r4, hp⟩ := am_b_e hp
    refine am_Rn.call am_h115 (mj := 137) (As := [.ref 0, .int v1]) (F' := (10, [(0, .ref 0), (1, .int v1)], [])) (M' := am_m137) (r := some (.int r4)) (S1 := (am_sh, h, hm, g)) rfl am_h137 rfl (by subst h_r4; exact (ezH_isText (by omega) v1 h)) ?_
    refine am_Rn.ite am_h115 (c := r4 = 0) (t := 13) (f := 15) (lv := [(0, .ref 0), (1, .int v1)]) (st := []) (S' := (am_sh, h, hm, g)) rfl hp (fun hc5 hp => ?_) (fun hc5 hp => ?_)
    · refine am_Rn.run am_h115 1 (F' := (14, [(0, .ref 0), (1, .int v1)], [.int 0])) (S' := (am_sh, h, hm, g)) rfl ?_
      cases hp
      exact am_Rn.ret am_h115 rfl
    · exact ezH_by_J15 hd R v1 h hp
/-- SixHands$Stage.isThere(I)Z [1] -/
def zG_isThere (v1 : Int32) (h : (Nat → Nat → Int32)) : Int32 := if v1 < 0 then (0) else (if v1 < (h 1 4) then (1) else (0))
set_option maxRecDepth 20000 in
theorem ezG_isThere {d : Nat} (hd : 0 ≤ d) (v1 : Int32) (h : (Nat → Nat → Int32)) : am_Ev 83 Xs am_P d 76 [.ref 1, .int v1] (am_sh, h, hm, g) (some (.int ((zG_isThere v1 h))), (am_sh, h, hm, g)) := by
  obtain ⟨R, hp⟩ : ∃ R, zG_isThere v1 h = R := ⟨_, rfl⟩
  rw [hp]
  unfold zG_isThere at hp
  show am_Rn 83 Xs am_P _ 76 (0, [(0, .ref 1), (1, .int v1)], []) _ _
  refine am_Rn.run am_h76 1 (F' := (1, [(0, .ref 1), (1, .int v1)], [.int v1])) (S' := (am_sh, h, hm, g)) rfl ?_
  refine am_Rn.ite am_h76 (c := v1 < 0) (t := 16) (f := 4) (lv := [(0, .ref 1), (1, .int v1)]) (st := []) (S' := (am_sh, h, hm, g)) rfl hp (fun hc1 hp => ?_) (fun hc1 hp => ?_)
  · refine am_Rn.run am_h76 1 (F' := (17, [(0, .ref 1), (1, .int v1)], [.int 0])) (S' := (am_sh, h, hm, g)) rfl ?_
    subst hp
    exact am_Rn.ret am_h76 rfl
  · refine am_Rn.run am_h76 3 (F' := (9, [(0, .ref 1), (1, .int v1)], [.int (h 1 4), .int v1])) (S' := (am_sh, h, hm, g)) rfl ?_
    refine am_Rn.ite am_h76 (c := v1 < (h 1 4)) (t := 12) (f := 16) (lv := [(0, .ref 1), (1, .int v1)]) (st := []) (S' := (am_sh, h, hm, g)) rfl hp (fun hc2 hp => ?_) (fun hc2 hp => ?_)
    · refine am_Rn.run am_h76 2 (F' := (17, [(0, .ref 1), (1, .int v1)], [.int 1])) (S' := (am_sh, h, hm, g)) rfl ?_
      subst hp
      exact am_Rn.ret am_h76 rfl
    · refine am_Rn.run am_h76 1 (F' := (17, [(0, .ref 1), (1, .int v1)], [.int 0])) (S' := (am_sh, h, hm, g)) rfl ?_
      subst hp
      exact am_Rn.ret am_h76 rfl
/-- SixHands$Stage.comesTo(II)Z [1] -/
def zG_comesTo (v1 : Int32) (v2 : Int32) (h : (Nat → Nat → Int32)) : Option (Int32 × (Nat → Nat → Int32)) := if v2 < 0 then (some ((0, h))) else (if v2 < (h 1 0) then (am_ix 6 v1 (am_b (va_up h 7 (upd (h 7) (v1.toNatClampNeg) v2)) fun h4 => am_ix 6 v1 (am_ix 6 v1 (am_b (va_up h4 6 (upd (h4 6) (v1.toNatClampNeg) ((h4 6 (v1.toNatClampNeg)) + 1))) fun h7 => some ((1, h7)))))) else (some ((0, h))))
set_option maxRecDepth 20000 in
theorem ezG_comesTo {d : Nat} (hd : 0 ≤ d) (v1 : Int32) (v2 : Int32) (h : (Nat → Nat → Int32)) (R : Int32 × (Nat → Nat → Int32)) (hp : zG_comesTo v1 v2 h = some R) : am_Ev 83 Xs am_P d 78 [.ref 1, .int v1, .int v2] (am_sh, h, hm, g) (some (.int R.1), (am_sh, R.2, hm, g)) := by
  unfold zG_comesTo at hp
  show am_Rn 83 Xs am_P _ 78 (0, [(0, .ref 1), (1, .int v1), (2, .int v2)], []) _ _
  refine am_Rn.run am_h78 1 (F' := (1, [(0, .ref 1), (1, .int v1), (2, .int v2)], [.int v2])) (S' := (am_sh, h, hm, g)) rfl ?_
  refine am_Rn.ite am_h78 (c := v2 < 0) (t := 12) (f := 4) (lv := [(0, .ref 1), (1, .int v1), (2, .int v2)]) (st := []) (S' := (am_sh, h, hm, g)) rfl hp (fun hc1 hp => ?_) (fun hc1 hp => ?_)
  · refine am_Rn.run am_h78 1 (F' := (13, [(0, .ref 1), (1, .int v1), (2, .int v2)], [.int 0])) (S' := (am_sh, h, hm, g)) rfl ?_
    cases hp
    exact am_Rn.ret am_h78 rfl
  · refine am_Rn.run am_h78 3 (F' := (9, [(0, .ref 1), (1, .int v1), (2, .int v2)], [.int (h 1 0), .int v2])) (S' := (am_sh, h, hm, g)) rfl ?_
    refine am_Rn.ite am_h78 (c := v2 < (h 1 0)) (t := 14) (f := 12) (lv := [(0, .ref 1), (1, .int v1), (2, .int v2)]) (st := []) (S' := (am_sh, h, hm, g)) rfl hp (fun hc2 hp => ?_) (fun hc2 hp => ?_)
    · refine am_Rn.run am_h78 4 (F' := (20, [(0, .ref 1), (1, .int v1), (2, .int v2)], [.int v2, .int v1, .ref 7])) (S' := (am_sh, h, hm, g)) rfl ?_
      obtain ⟨hn3, hp⟩ := am_ix_e hp
      obtain ⟨h4, h_h4, hp⟩ := am_b_e hp
      refine am_Rn.stepG am_h78 (c := v1 < 0 ∨ 6 ≤ v1.toNatClampNeg) (F' := (21, [(0, .ref 1), (1, .int v1), (2, .int v2)], [])) (S' := (am_sh, h4, hm, g)) (by subst h_h4; rfl) hn3 ?_
      refine am_Rn.run am_h78 4 (F' := (27, [(0, .ref 1), (1, .int v1), (2, .int v2)], [.int v1, .ref 6, .int v1, .ref 6])) (S' := (am_sh, h4, hm, g)) rfl ?_
      obtain ⟨hn5, hp⟩ := am_ix_e hp
      refine am_Rn.stepG am_h78 (c := v1 < 0 ∨ 6 ≤ v1.toNatClampNeg) (F' := (28, [(0, .ref 1), (1, .int v1), (2, .int v2)], [.int (h4 6 (v1.toNatClampNeg)), .int v1, .ref 6])) (S' := (am_sh, h4, hm, g)) rfl hn5 ?_
      refine am_Rn.run am_h78 2 (F' := (30, [(0, .ref 1), (1, .int v1), (2, .int v2)], [.int ((h4 6 (v1.toNatClampNeg)) + 1), .int v1, .ref 6])) (S' := (am_sh, h4, hm, g)) rfl ?_
      obtain ⟨hn6, hp⟩ := am_ix_e hp
      obtain ⟨h7, h_h7, hp⟩ := am_b_e hp
      refine am_Rn.stepG am_h78 (c := v1 < 0 ∨ 6 ≤ v1.toNatClampNeg) (F' := (31, [(0, .ref 1), (1, .int v1), (2, .int v2)], [])) (S' := (am_sh, h7, hm, g)) (by subst h_h7; rfl) hn6 ?_
      refine am_Rn.run am_h78 1 (F' := (32, [(0, .ref 1), (1, .int v1), (2, .int v2)], [.int 1])) (S' := (am_sh, h7, hm, g)) rfl ?_
      cases hp
      exact am_Rn.ret am_h78 rfl
    · refine am_Rn.run am_h78 1 (F' := (13, [(0, .ref 1), (1, .int v1), (2, .int v2)], [.int 0])) (S' := (am_sh, h, hm, g)) rfl ?_
      cases hp
      exact am_Rn.ret am_h78 rfl
/-- SixHands$Stage.isNowOn(I)Z [1] -/
def zG_isNowOn (v1 : Int32) (h : (Nat → Nat → Int32)) : Option (Int32) := am_b (zG_isThere v1 h) fun r1 => if r1 = 0 then (some 0) else (am_ix 6 v1 (if (h 7 (v1.toNatClampNeg)) = (-1) then (some 0) else (some 1)))
set_option maxRecDepth 20000 in
theorem ezG_isNowOn {d : Nat} (hd : 1 ≤ d) (v1 : Int32) (h : (Nat → Nat → Int32)) (R : Int32) (hp : zG_isNowOn v1 h = some R) : am_Ev 83 Xs am_P d 77 [.ref 1, .int v1] (am_sh, h, hm, g) (some (.int R), (am_sh, h, hm, g)) := by
  obtain ⟨d, rfl⟩ : ∃ k, d = k + 1 := ⟨d - 1, by omega⟩
  unfold zG_isNowOn at hp
  show am_Rn 83 Xs am_P _ 77 (0, [(0, .ref 1), (1, .int v1)], []) _ _
  refine am_Rn.run am_h77 2 (F' := (2, [(0, .ref 1), (1, .int v1)], [.int v1, .ref 1])) (S' := (am_sh, h, hm, g)) rfl ?_
  obtain ⟨r1, h_r1, hp⟩ := am_b_e hp
  refine am_Rn.call am_h77 (mj := 76) (As := [.ref 1, .int v1]) (F' := (5, [(0, .ref 1), (1, .int v1)], [])) (M' := am_m76) (r := some (.int r1)) (S1 := (am_sh, h, hm, g)) rfl am_h76 rfl (by subst h_r1; exact (ezG_isThere (by omega) v1 h)) ?_
  refine am_Rn.ite am_h77 (c := r1 = 0) (t := 22) (f := 8) (lv := [(0, .ref 1), (1, .int v1)]) (st := []) (S' := (am_sh, h, hm, g)) rfl hp (fun hc2 hp => ?_) (fun hc2 hp => ?_)
  · refine am_Rn.run am_h77 1 (F' := (23, [(0, .ref 1), (1, .int v1)], [.int 0])) (S' := (am_sh, h, hm, g)) rfl ?_
    cases hp
    exact am_Rn.ret am_h77 rfl
  · refine am_Rn.run am_h77 3 (F' := (13, [(0, .ref 1), (1, .int v1)], [.int v1, .ref 7])) (S' := (am_sh, h, hm, g)) rfl ?_
    obtain ⟨hn3, hp⟩ := am_ix_e hp
    refine am_Rn.stepG am_h77 (c := v1 < 0 ∨ 6 ≤ v1.toNatClampNeg) (F' := (14, [(0, .ref 1), (1, .int v1)], [.int (h 7 (v1.toNatClampNeg))])) (S' := (am_sh, h, hm, g)) rfl hn3 ?_
    refine am_Rn.run am_h77 1 (F' := (15, [(0, .ref 1), (1, .int v1)], [.int (-1), .int (h 7 (v1.toNatClampNeg))])) (S' := (am_sh, h, hm, g)) rfl ?_
    refine am_Rn.ite am_h77 (c := (h 7 (v1.toNatClampNeg)) = (-1)) (t := 22) (f := 18) (lv := [(0, .ref 1), (1, .int v1)]) (st := []) (S' := (am_sh, h, hm, g)) rfl hp (fun hc4 hp => ?_) (fun hc4 hp => ?_)
    · refine am_Rn.run am_h77 1 (F' := (23, [(0, .ref 1), (1, .int v1)], [.int 0])) (S' := (am_sh, h, hm, g)) rfl ?_
      cases hp
      exact am_Rn.ret am_h77 rfl
    · refine am_Rn.run am_h77 2 (F' := (23, [(0, .ref 1), (1, .int v1)], [.int 1])) (S' := (am_sh, h, hm, g)) rfl ?_
      cases hp
      exact am_Rn.ret am_h77 rfl
/-- SixHands$Stage.leaves(I)Z [1] -/
def zG_leaves (v1 : Int32) (h : (Nat → Nat → Int32)) : Option (Int32 × (Nat → Nat → Int32)) := am_ix 6 v1 (am_b (va_up h 7 (upd (h 7) (v1.toNatClampNeg) (-1))) fun h2 => am_ix 6 v1 (am_ix 6 v1 (am_b (va_up h2 6 (upd (h2 6) (v1.toNatClampNeg) ((h2 6 (v1.toNatClampNeg)) + 1))) fun h5 => some ((1, h5)))))
set_option maxRecDepth 20000 in
theorem ezG_leaves {d : Nat} (hd : 0 ≤ d) (v1 : Int32) (h : (Nat → Nat → Int32)) (R : Int32 × (Nat → Nat → Int32)) (hp : zG_leaves v1 h = some R) : am_Ev 83 Xs am_P d 79 [.ref 1, .int v1] (am_sh, h, hm, g) (some (.int R.1), (am_sh, R.2, hm, g)) := by
  unfold zG_leaves at hp
  show am_Rn 83 Xs am_P _ 79 (0, [(0, .ref 1), (1, .int v1)], []) _ _
  refine am_Rn.run am_h79 4 (F' := (6, [(0, .ref 1), (1, .int v1)], [.int (-1), .int v1, .ref 7])) (S' := (am_sh, h, hm, g)) rfl ?_
  obtain ⟨hn1, hp⟩ := am_ix_e hp
  obtain ⟨h2, h_h2, hp⟩ := am_b_e hp
  refine am_Rn.stepG am_h79 (c := v1 < 0 ∨ 6 ≤ v1.toNatClampNeg) (F' := (7, [(0, .ref 1), (1, .int v1)], [])) (S' := (am_sh, h2, hm, g)) (by subst h_h2; rfl) hn1 ?_
  refine am_Rn.run am_h79 4 (F' := (13, [(0, .ref 1), (1, .int v1)], [.int v1, .ref 6, .int v1, .ref 6])) (S' := (am_sh, h2, hm, g)) rfl ?_
  obtain ⟨hn3, hp⟩ := am_ix_e hp
  refine am_Rn.stepG am_h79 (c := v1 < 0 ∨ 6 ≤ v1.toNatClampNeg) (F' := (14, [(0, .ref 1), (1, .int v1)], [.int (h2 6 (v1.toNatClampNeg)), .int v1, .ref 6])) (S' := (am_sh, h2, hm, g)) rfl hn3 ?_
  refine am_Rn.run am_h79 2 (F' := (16, [(0, .ref 1), (1, .int v1)], [.int ((h2 6 (v1.toNatClampNeg)) + 1), .int v1, .ref 6])) (S' := (am_sh, h2, hm, g)) rfl ?_
  obtain ⟨hn4, hp⟩ := am_ix_e hp
  obtain ⟨h5, h_h5, hp⟩ := am_b_e hp
  refine am_Rn.stepG am_h79 (c := v1 < 0 ∨ 6 ≤ v1.toNatClampNeg) (F' := (17, [(0, .ref 1), (1, .int v1)], [])) (S' := (am_sh, h5, hm, g)) (by subst h_h5; rfl) hn4 ?_
  refine am_Rn.run am_h79 1 (F' := (18, [(0, .ref 1), (1, .int v1)], [.int 1])) (S' := (am_sh, h5, hm, g)) rfl ?_
  cases hp
  exact am_Rn.ret am_h79 rfl
/-- java/lang/Math.abs(I)I [] -/
def zD_abs (v0 : Int32) : Int32 := if v0 < 0 then (-v0) else (v0)
set_option maxRecDepth 20000 in
theorem ezD_abs {d : Nat} (hd : 0 ≤ d) (v0 : Int32) : am_Ev 83 Xs am_P d 1 [.int v0] S (some (.int ((zD_abs v0))), S) := by
  obtain ⟨R, hp⟩ : ∃ R, zD_abs v0 = R := ⟨_, rfl⟩
  rw [hp]
  unfold zD_abs at hp
  show am_Rn 83 Xs am_P _ 1 (0, [(0, .int v0)], []) _ _
  refine am_Rn.run am_h1 1 (F' := (1, [(0, .int v0)], [.int v0])) (S' := S) rfl ?_
  refine am_Rn.ite am_h1 (c := v0 < 0) (t := 4) (f := 9) (lv := [(0, .int v0)]) (st := []) (S' := S) rfl hp (fun hc1 hp => ?_) (fun hc1 hp => ?_)
  · refine am_Rn.run am_h1 3 (F' := (10, [(0, .int v0)], [.int (-v0)])) (S' := S) rfl ?_
    subst hp
    exact am_Rn.ret am_h1 rfl
  · refine am_Rn.run am_h1 1 (F' := (10, [(0, .int v0)], [.int v0])) (S' := S) rfl ?_
    subst hp
    exact am_Rn.ret am_h1 rfl
/-- SixHands$Stage.hits(II)Z [1] -/
def zG_hits (v1 : Int32) (v2 : Int32) (h : (Nat → Nat → Int32)) : Option (Int32 × (Nat → Nat → Int32)) := am_ix 6 v1 (am_ix 6 v2 (am_b (zD_abs ((h 7 (v1.toNatClampNeg)) - (h 7 (v2.toNatClampNeg)))) fun r3 => if 1 < r3 then (some ((0, h))) else (am_ix 6 v1 (am_ix 6 v1 (am_b (va_up h 6 (upd (h 6) (v1.toNatClampNeg) ((h 6 (v1.toNatClampNeg)) + 1))) fun h7 => am_ix 6 v2 (am_ix 6 v2 (am_b (va_up h7 6 (upd (h7 6) (v2.toNatClampNeg) ((h7 6 (v2.toNatClampNeg)) + 1))) fun h10 => some ((1, h10)))))))))
set_option maxRecDepth 20000 in
theorem ezG_hits {d : Nat} (hd : 1 ≤ d) (v1 : Int32) (v2 : Int32) (h : (Nat → Nat → Int32)) (R : Int32 × (Nat → Nat → Int32)) (hp : zG_hits v1 v2 h = some R) : am_Ev 83 Xs am_P d 80 [.ref 1, .int v1, .int v2] (am_sh, h, hm, g) (some (.int R.1), (am_sh, R.2, hm, g)) := by
  obtain ⟨d, rfl⟩ : ∃ k, d = k + 1 := ⟨d - 1, by omega⟩
  unfold zG_hits at hp
  show am_Rn 83 Xs am_P _ 80 (0, [(0, .ref 1), (1, .int v1), (2, .int v2)], []) _ _
  refine am_Rn.run am_h80 3 (F' := (5, [(0, .ref 1), (1, .int v1), (2, .int v2)], [.int v1, .ref 7])) (S' := (am_sh, h, hm, g)) rfl ?_
  obtain ⟨hn1, hp⟩ := am_ix_e hp
  refine am_Rn.stepG am_h80 (c := v1 < 0 ∨ 6 ≤ v1.toNatClampNeg) (F' := (6, [(0, .ref 1), (1, .int v1), (2, .int v2)], [.int (h 7 (v1.toNatClampNeg))])) (S' := (am_sh, h, hm, g)) rfl hn1 ?_
  refine am_Rn.run am_h80 3 (F' := (11, [(0, .ref 1), (1, .int v1), (2, .int v2)], [.int v2, .ref 7, .int (h 7 (v1.toNatClampNeg))])) (S' := (am_sh, h, hm, g)) rfl ?_
  obtain ⟨hn2, hp⟩ := am_ix_e hp
  refine am_Rn.stepG am_h80 (c := v2 < 0 ∨ 6 ≤ v2.toNatClampNeg) (F' := (12, [(0, .ref 1), (1, .int v1), (2, .int v2)], [.int (h 7 (v2.toNatClampNeg)), .int (h 7 (v1.toNatClampNeg))])) (S' := (am_sh, h, hm, g)) rfl hn2 ?_
  refine am_Rn.run am_h80 1 (F' := (13, [(0, .ref 1), (1, .int v1), (2, .int v2)], [.int ((h 7 (v1.toNatClampNeg)) - (h 7 (v2.toNatClampNeg)))])) (S' := (am_sh, h, hm, g)) rfl ?_
  obtain ⟨r3, h_r3, hp⟩ := am_b_e hp
  refine am_Rn.call am_h80 (mj := 1) (As := [.int ((h 7 (v1.toNatClampNeg)) - (h 7 (v2.toNatClampNeg)))]) (F' := (16, [(0, .ref 1), (1, .int v1), (2, .int v2)], [])) (M' := am_m1) (r := some (.int r3)) (S1 := (am_sh, h, hm, g)) rfl am_h1 rfl (by subst h_r3; exact (ezD_abs (by omega) ((h 7 (v1.toNatClampNeg)) - (h 7 (v2.toNatClampNeg))))) ?_
  refine am_Rn.run am_h80 1 (F' := (17, [(0, .ref 1), (1, .int v1), (2, .int v2)], [.int 1, .int r3])) (S' := (am_sh, h, hm, g)) rfl ?_
  refine am_Rn.ite am_h80 (c := 1 < r3) (t := 20) (f := 22) (lv := [(0, .ref 1), (1, .int v1), (2, .int v2)]) (st := []) (S' := (am_sh, h, hm, g)) rfl hp (fun hc4 hp => ?_) (fun hc4 hp => ?_)
  · refine am_Rn.run am_h80 1 (F' := (21, [(0, .ref 1), (1, .int v1), (2, .int v2)], [.int 0])) (S' := (am_sh, h, hm, g)) rfl ?_
    cases hp
    exact am_Rn.ret am_h80 rfl
  · refine am_Rn.run am_h80 4 (F' := (28, [(0, .ref 1), (1, .int v1), (2, .int v2)], [.int v1, .ref 6, .int v1, .ref 6])) (S' := (am_sh, h, hm, g)) rfl ?_
    obtain ⟨hn5, hp⟩ := am_ix_e hp
    refine am_Rn.stepG am_h80 (c := v1 < 0 ∨ 6 ≤ v1.toNatClampNeg) (F' := (29, [(0, .ref 1), (1, .int v1), (2, .int v2)], [.int (h 6 (v1.toNatClampNeg)), .int v1, .ref 6])) (S' := (am_sh, h, hm, g)) rfl hn5 ?_
    refine am_Rn.run am_h80 2 (F' := (31, [(0, .ref 1), (1, .int v1), (2, .int v2)], [.int ((h 6 (v1.toNatClampNeg)) + 1), .int v1, .ref 6])) (S' := (am_sh, h, hm, g)) rfl ?_
    obtain ⟨hn6, hp⟩ := am_ix_e hp
    obtain ⟨h7, h_h7, hp⟩ := am_b_e hp
    refine am_Rn.stepG am_h80 (c := v1 < 0 ∨ 6 ≤ v1.toNatClampNeg) (F' := (32, [(0, .ref 1), (1, .int v1), (2, .int v2)], [])) (S' := (am_sh, h7, hm, g)) (by subst h_h7; rfl) hn6 ?_
    refine am_Rn.run am_h80 4 (F' := (38, [(0, .ref 1), (1, .int v1), (2, .int v2)], [.int v2, .ref 6, .int v2, .ref 6])) (S' := (am_sh, h7, hm, g)) rfl ?_
    obtain ⟨hn8, hp⟩ := am_ix_e hp
    refine am_Rn.stepG am_h80 (c := v2 < 0 ∨ 6 ≤ v2.toNatClampNeg) (F' := (39, [(0, .ref 1), (1, .int v1), (2, .int v2)], [.int (h7 6 (v2.toNatClampNeg)), .int v2, .ref 6])) (S' := (am_sh, h7, hm, g)) rfl hn8 ?_
    refine am_Rn.run am_h80 2 (F' := (41, [(0, .ref 1), (1, .int v1), (2, .int v2)], [.int ((h7 6 (v2.toNatClampNeg)) + 1), .int v2, .ref 6])) (S' := (am_sh, h7, hm, g)) rfl ?_
    obtain ⟨hn9, hp⟩ := am_ix_e hp
    obtain ⟨h10, h_h10, hp⟩ := am_b_e hp
    refine am_Rn.stepG am_h80 (c := v2 < 0 ∨ 6 ≤ v2.toNatClampNeg) (F' := (42, [(0, .ref 1), (1, .int v1), (2, .int v2)], [])) (S' := (am_sh, h10, hm, g)) (by subst h_h10; rfl) hn9 ?_
    refine am_Rn.run am_h80 1 (F' := (43, [(0, .ref 1), (1, .int v1), (2, .int v2)], [.int 1])) (S' := (am_sh, h10, hm, g)) rfl ?_
    cases hp
    exact am_Rn.ret am_h80 rfl
/-- SixHands$Stage.endsBeat()Z [1] -/
def zG_endsBeat (h : (Nat → Nat → Int32)) : Option (Int32 × (Nat → Nat → Int32)) := if (h 1 13) < 24 then (am_no (((0 : Int32) < 0 ∨ ((h 1 13) * 6) < 0) ∨ ((6 : Int32) < 0 ∨ 6 < 0 + 6) ∨ 144 < ((h 1 13) * 6).toNatClampNeg + 6) (am_b (va_up h 8 (va_cpy (h 7) (h 8) 0 (((h 1 13) * 6).toNatClampNeg) 6)) fun h3 => am_b (va_up h3 1 (upd (h3 1) 13 ((h3 1 13) + 1))) fun h4 => some ((1, h4)))) else (some ((0, h)))
set_option maxRecDepth 20000 in
theorem ezG_endsBeat {d : Nat} (hd : 0 ≤ d) (h : (Nat → Nat → Int32)) (R : Int32 × (Nat → Nat → Int32)) (hp : zG_endsBeat h = some R) : am_Ev 83 Xs am_P d 81 [.ref 1] (am_sh, h, hm, g) (some (.int R.1), (am_sh, R.2, hm, g)) := by
  unfold zG_endsBeat at hp
  show am_Rn 83 Xs am_P _ 81 (0, [(0, .ref 1)], []) _ _
  refine am_Rn.run am_h81 3 (F' := (6, [(0, .ref 1)], [.int 24, .int (h 1 13)])) (S' := (am_sh, h, hm, g)) rfl ?_
  refine am_Rn.ite am_h81 (c := (h 1 13) < 24) (t := 11) (f := 9) (lv := [(0, .ref 1)]) (st := []) (S' := (am_sh, h, hm, g)) rfl hp (fun hc1 hp => ?_) (fun hc1 hp => ?_)
  · refine am_Rn.run am_h81 10 (F' := (29, [(0, .ref 1)], [.int 6, .int ((h 1 13) * 6), .ref 8, .int 0, .ref 7])) (S' := (am_sh, h, hm, g)) rfl ?_
    obtain ⟨hn2, hp⟩ := am_no_e hp
    obtain ⟨h3, h_h3, hp⟩ := am_b_e hp
    refine am_Rn.stepG am_h81 (c := ((0 : Int32) < 0 ∨ ((h 1 13) * 6) < 0) ∨ ((6 : Int32) < 0 ∨ 6 < 0 + 6) ∨ 144 < ((h 1 13) * 6).toNatClampNeg + 6) (F' := (32, [(0, .ref 1)], [])) (S' := (am_sh, h3, hm, g)) (by subst h_h3; rfl) hn2 ?_
    obtain ⟨h4, h_h4, hp⟩ := am_b_e hp
    refine am_Rn.run am_h81 7 (F' := (43, [(0, .ref 1)], [.int 1])) (S' := (am_sh, h4, hm, g)) (by subst h_h4; rfl) ?_
    cases hp
    exact am_Rn.ret am_h81 rfl
  · refine am_Rn.run am_h81 1 (F' := (10, [(0, .ref 1)], [.int 0])) (S' := (am_sh, h, hm, g)) rfl ?_
    cases hp
    exact am_Rn.ret am_h81 rfl
end
