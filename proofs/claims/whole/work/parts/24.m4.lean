section
variable {Xs : Nat × (Nat → Int32)} {hx hm : Nat → Nat → Int32} {g : Nat → Nat → Int64} {S : am_S}
/-- SixHandsModel.work(I)V [83] -/
def zM_work_L48 : Nat → Int32 → Int32 → Int32 → Int32 → Int32 → zHM → Option (zHM)
  | 0, _, _, _, _, _, _ => none
  | n + 1, v2, v3, v4, v5, v6, w => am_ix 3160 (v2 + 2) (if v6 < (w.1 86 ((v2 + 2).toNatClampNeg)) then (am_ix 3160 (v3 + (2 * v6)) (am_b (w.1 86 ((v3 + (2 * v6)).toNatClampNeg)) fun x8 => am_ix 3160 ((v3 + (2 * v6)) + 1) (am_b (w.1 86 (((v3 + (2 * v6)) + 1).toNatClampNeg)) fun x10 => if 1 < x8 then (if x8 = 2 then (am_ix 330 (v4 - 1) (am_ix 330 (v4 - 1) (am_b ((w.1, va_up w.2 90 (vp_updL (w.2 90) ((v4 - 1).toNatClampNeg) (-(w.2 90 ((v4 - 1).toNatClampNeg)))))) fun w15 => zM_work_L48 n v2 v3 v4 v5 (v6 + 1) w15))) else (if x8 < 10 then (am_b (v4 + (-1)) fun x17 => am_ix 330 (x17 - 1) (am_ix 330 x17 ((zM_two x8 (w.2 90 ((x17 - 1).toNatClampNeg)) (w.2 90 (x17.toNatClampNeg))).bind fun r20 => am_ix 330 (x17 - 1) (am_b ((w.1, va_up w.2 90 (vp_updL (w.2 90) ((x17 - 1).toNatClampNeg) r20))) fun w22 => zM_work_L48 n v2 v3 x17 v5 (v6 + 1) w22)))) else (if x8 < 20 then (am_b (v4 + (-2)) fun x24 => am_ix 330 x24 (am_ix 330 (x24 + 1) (am_b (zM_isAsked x8 (w.2 90 (x24.toNatClampNeg)) (w.2 90 ((x24 + 1).toNatClampNeg))) fun r27 => am_ix 330 v5 (am_b ((va_up w.1 91 (upd (w.1 91) (v5.toNatClampNeg) (r27 &&& 1)), w.2)) fun w29 => zM_work_L48 n v2 v3 x24 (v5 + 1) (v6 + 1) w29)))) else (if x8 = 20 then (am_ix 330 (v5 - 1) (if (w.1 91 ((v5 - 1).toNatClampNeg)) = 0 then (am_ix 330 (v5 - 1) (am_b ((va_up w.1 91 (upd (w.1 91) ((v5 - 1).toNatClampNeg) (1 : Int32)), w.2)) fun w34 => zM_work_L48 n v2 v3 v4 v5 (v6 + 1) w34)) else (am_ix 330 (v5 - 1) (am_b ((va_up w.1 91 (upd (w.1 91) ((v5 - 1).toNatClampNeg) (0 : Int32)), w.2)) fun w36 => zM_work_L48 n v2 v3 v4 v5 (v6 + 1) w36)))) else (am_b (v5 + (-1)) fun x37 => if x8 = 21 then (am_ix 330 (x37 - 1) (if (w.1 91 ((x37 - 1).toNatClampNeg)) = 0 then (am_ix 330 (x37 - 1) (am_b ((va_up w.1 91 (upd (w.1 91) ((x37 - 1).toNatClampNeg) (0 : Int32)), w.2)) fun w42 => zM_work_L48 n v2 v3 v4 x37 (v6 + 1) w42)) else (am_ix 330 x37 (if (w.1 91 (x37.toNatClampNeg)) = 0 then (am_ix 330 (x37 - 1) (am_b ((va_up w.1 91 (upd (w.1 91) ((x37 - 1).toNatClampNeg) (0 : Int32)), w.2)) fun w46 => zM_work_L48 n v2 v3 v4 x37 (v6 + 1) w46)) else (am_ix 330 (x37 - 1) (am_b ((va_up w.1 91 (upd (w.1 91) ((x37 - 1).toNatClampNeg) (1 : Int32)), w.2)) fun w48 => zM_work_L48 n v2 v3 v4 x37 (v6 + 1) w48)))))) else (am_ix 330 (x37 - 1) (if (w.1 91 ((x37 - 1).toNatClampNeg)) = 0 then (am_ix 330 x37 (if (w.1 91 (x37.toNatClampNeg)) = 0 then (am_ix 330 (x37 - 1) (am_b ((va_up w.1 91 (upd (w.1 91) ((x37 - 1).toNatClampNeg) (0 : Int32)), w.2)) fun w54 => zM_work_L48 n v2 v3 v4 x37 (v6 + 1) w54)) else (am_ix 330 (x37 - 1) (am_b ((va_up w.1 91 (upd (w.1 91) ((x37 - 1).toNatClampNeg) (1 : Int32)), w.2)) fun w56 => zM_work_L48 n v2 v3 v4 x37 (v6 + 1) w56)))) else (am_ix 330 (x37 - 1) (am_b ((va_up w.1 91 (upd (w.1 91) ((x37 - 1).toNatClampNeg) (1 : Int32)), w.2)) fun w58 => zM_work_L48 n v2 v3 v4 x37 (v6 + 1) w58))))))))) else (if x8 = 0 then (am_ix 330 v4 (am_b ((w.1, va_up w.2 90 (vp_updL (w.2 90) (v4.toNatClampNeg) (x10.toInt64)))) fun w61 => zM_work_L48 n v2 v3 (v4 + 1) v5 (v6 + 1) w61)) else (am_ix 10 x10 (am_ix 330 v4 (am_b ((w.1, va_up w.2 90 (vp_updL (w.2 90) (v4.toNatClampNeg) ((w.1 89 (x10.toNatClampNeg)).toInt64)))) fun w64 => zM_work_L48 n v2 v3 (v4 + 1) v5 (v6 + 1) w64))))))) else (some w))
set_option maxRecDepth 20000 in
theorem ezM_work_L48 {d : Nat} (hd : 2 ≤ d) (R : zHM) : ∀ (n : Nat) (v2 : Int32) (v3 : Int32) (v4 : Int32) (v5 : Int32) (v6 : Int32) (w : zHM), zM_work_L48 n v2 v3 v4 v5 v6 w = some R → am_Rn 83 Xs am_P d 210 (48, [(0, .ref 83), (2, .int v2), (3, .int v3), (4, .int v4), (5, .int v5), (6, .int v6)], []) (am_sh, hx, w.1, w.2) (none, (am_sh, hx, R.1, R.2))
  | 0, _, _, _, _, _, _, hp => by cases hp
  | n + 1, v2, v3, v4, v5, v6, w, hp => by
    obtain ⟨d, rfl⟩ : ∃ k, d = k + 1 := ⟨d - 1, by omega⟩
    unfold zM_work_L48 at hp
    refine am_Rn.run am_h210 6 (F' := (57, [(0, .ref 83), (2, .int v2), (3, .int v3), (4, .int v4), (5, .int v5), (6, .int v6)], [.int (v2 + 2), .ref 86, .int v6])) (S' := (am_sh, hx, w.1, w.2)) rfl ?_
    obtain ⟨hn5, hp⟩ := am_ix_e hp
    refine am_Rn.stepG am_h210 (c := (v2 + 2) < 0 ∨ 3160 ≤ (v2 + 2).toNatClampNeg) (F' := (58, [(0, .ref 83), (2, .int v2), (3, .int v3), (4, .int v4), (5, .int v5), (6, .int v6)], [.int (w.1 86 ((v2 + 2).toNatClampNeg)), .int v6])) (S' := (am_sh, hx, w.1, w.2)) rfl hn5 ?_
    refine am_Rn.ite am_h210 (c := v6 < (w.1 86 ((v2 + 2).toNatClampNeg))) (t := 61) (f := 360) (lv := [(0, .ref 83), (2, .int v2), (3, .int v3), (4, .int v4), (5, .int v5), (6, .int v6)]) (st := []) (S' := (am_sh, hx, w.1, w.2)) rfl hp (fun hc6 hp => ?_) (fun hc6 hp => ?_)
    · refine am_Rn.run am_h210 7 (F' := (71, [(0, .ref 83), (2, .int v2), (3, .int v3), (4, .int v4), (5, .int v5), (6, .int v6)], [.int (v3 + (2 * v6)), .ref 86])) (S' := (am_sh, hx, w.1, w.2)) rfl ?_
      obtain ⟨hn7, hp⟩ := am_ix_e hp
      refine am_Rn.stepG am_h210 (c := (v3 + (2 * v6)) < 0 ∨ 3160 ≤ (v3 + (2 * v6)).toNatClampNeg) (F' := (72, [(0, .ref 83), (2, .int v2), (3, .int v3), (4, .int v4), (5, .int v5), (6, .int v6)], [.int (w.1 86 ((v3 + (2 * v6)).toNatClampNeg))])) (S' := (am_sh, hx, w.1, w.2)) rfl hn7 ?_
      obtain ⟨x8, h_x8, hp⟩ := am_b_e hp
      refine am_Rn.run am_h210 10 (F' := (86, [(7, .int x8), (0, .ref 83), (2, .int v2), (3, .int v3), (4, .int v4), (5, .int v5), (6, .int v6)], [.int ((v3 + (2 * v6)) + 1), .ref 86])) (S' := (am_sh, hx, w.1, w.2)) (by subst h_x8; rfl) ?_
      obtain ⟨hn9, hp⟩ := am_ix_e hp
      refine am_Rn.stepG am_h210 (c := ((v3 + (2 * v6)) + 1) < 0 ∨ 3160 ≤ ((v3 + (2 * v6)) + 1).toNatClampNeg) (F' := (87, [(7, .int x8), (0, .ref 83), (2, .int v2), (3, .int v3), (4, .int v4), (5, .int v5), (6, .int v6)], [.int (w.1 86 (((v3 + (2 * v6)) + 1).toNatClampNeg))])) (S' := (am_sh, hx, w.1, w.2)) rfl hn9 ?_
      obtain ⟨x10, h_x10, hp⟩ := am_b_e hp
      refine am_Rn.run am_h210 3 (F' := (92, [(8, .int x10), (7, .int x8), (0, .ref 83), (2, .int v2), (3, .int v3), (4, .int v4), (5, .int v5), (6, .int v6)], [.int 1, .int x8])) (S' := (am_sh, hx, w.1, w.2)) (by subst h_x10; rfl) ?_
      refine am_Rn.ite am_h210 (c := 1 < x8) (t := 127) (f := 95) (lv := [(8, .int x10), (7, .int x8), (0, .ref 83), (2, .int v2), (3, .int v3), (4, .int v4), (5, .int v5), (6, .int v6)]) (st := []) (S' := (am_sh, hx, w.1, w.2)) rfl hp (fun hc11 hp => ?_) (fun hc11 hp => ?_)
      · refine am_Rn.run am_h210 2 (F' := (130, [(8, .int x10), (7, .int x8), (0, .ref 83), (2, .int v2), (3, .int v3), (4, .int v4), (5, .int v5), (6, .int v6)], [.int 2, .int x8])) (S' := (am_sh, hx, w.1, w.2)) rfl ?_
        refine am_Rn.ite am_h210 (c := x8 = 2) (t := 133) (f := 155) (lv := [(8, .int x10), (7, .int x8), (0, .ref 83), (2, .int v2), (3, .int v3), (4, .int v4), (5, .int v5), (6, .int v6)]) (st := []) (S' := (am_sh, hx, w.1, w.2)) rfl hp (fun hc12 hp => ?_) (fun hc12 hp => ?_)
        · refine am_Rn.run am_h210 10 (F' := (149, [(8, .int x10), (7, .int x8), (0, .ref 83), (2, .int v2), (3, .int v3), (4, .int v4), (5, .int v5), (6, .int v6)], [.int (v4 - 1), .ref 90, .int (v4 - 1), .ref 90])) (S' := (am_sh, hx, w.1, w.2)) rfl ?_
          obtain ⟨hn13, hp⟩ := am_ix_e hp
          refine am_Rn.stepG am_h210 (c := (v4 - 1) < 0 ∨ 330 ≤ (v4 - 1).toNatClampNeg) (F' := (150, [(8, .int x10), (7, .int x8), (0, .ref 83), (2, .int v2), (3, .int v3), (4, .int v4), (5, .int v5), (6, .int v6)], [.long (w.2 90 ((v4 - 1).toNatClampNeg)), .int (v4 - 1), .ref 90])) (S' := (am_sh, hx, w.1, w.2)) rfl hn13 ?_
          refine am_Rn.run am_h210 1 (F' := (151, [(8, .int x10), (7, .int x8), (0, .ref 83), (2, .int v2), (3, .int v3), (4, .int v4), (5, .int v5), (6, .int v6)], [.long (-(w.2 90 ((v4 - 1).toNatClampNeg))), .int (v4 - 1), .ref 90])) (S' := (am_sh, hx, w.1, w.2)) rfl ?_
          obtain ⟨hn14, hp⟩ := am_ix_e hp
          obtain ⟨w15, h_w15, hp⟩ := am_b_e hp
          refine am_Rn.stepG am_h210 (c := (v4 - 1) < 0 ∨ 330 ≤ (v4 - 1).toNatClampNeg) (F' := (152, [(8, .int x10), (7, .int x8), (0, .ref 83), (2, .int v2), (3, .int v3), (4, .int v4), (5, .int v5), (6, .int v6)], [])) (S' := (am_sh, hx, w15.1, w15.2)) (by subst h_w15; rfl) hn14 ?_
          refine am_Rn.run am_h210 3 (F' := (48, [(6, .int (v6 + 1)), (8, .int x10), (7, .int x8), (0, .ref 83), (2, .int v2), (3, .int v3), (4, .int v4), (5, .int v5)], [])) (S' := (am_sh, hx, w15.1, w15.2)) rfl ?_
          refine am_Rn.sub [3, 4, 5, 6, 7, 0] rfl rfl ?_
          exact ezM_work_L48 hd R n v2 v3 v4 v5 (v6 + 1) w15 hp
        · refine am_Rn.run am_h210 2 (F' := (159, [(8, .int x10), (7, .int x8), (0, .ref 83), (2, .int v2), (3, .int v3), (4, .int v4), (5, .int v5), (6, .int v6)], [.int 10, .int x8])) (S' := (am_sh, hx, w.1, w.2)) rfl ?_
          refine am_Rn.ite am_h210 (c := x8 < 10) (t := 162) (f := 198) (lv := [(8, .int x10), (7, .int x8), (0, .ref 83), (2, .int v2), (3, .int v3), (4, .int v4), (5, .int v5), (6, .int v6)]) (st := []) (S' := (am_sh, hx, w.1, w.2)) rfl hp (fun hc16 hp => ?_) (fun hc16 hp => ?_)
          · obtain ⟨x17, h_x17, hp⟩ := am_b_e hp
            refine am_Rn.run am_h210 12 (F' := (183, [(4, .int x17), (8, .int x10), (7, .int x8), (0, .ref 83), (2, .int v2), (3, .int v3), (5, .int v5), (6, .int v6)], [.int (x17 - 1), .ref 90, .int x8, .int (x17 - 1), .ref 90])) (S' := (am_sh, hx, w.1, w.2)) (by subst h_x17; rfl) ?_
            obtain ⟨hn18, hp⟩ := am_ix_e hp
            refine am_Rn.stepG am_h210 (c := (x17 - 1) < 0 ∨ 330 ≤ (x17 - 1).toNatClampNeg) (F' := (184, [(4, .int x17), (8, .int x10), (7, .int x8), (0, .ref 83), (2, .int v2), (3, .int v3), (5, .int v5), (6, .int v6)], [.long (w.2 90 ((x17 - 1).toNatClampNeg)), .int x8, .int (x17 - 1), .ref 90])) (S' := (am_sh, hx, w.1, w.2)) rfl hn18 ?_
            refine am_Rn.run am_h210 3 (F' := (190, [(4, .int x17), (8, .int x10), (7, .int x8), (0, .ref 83), (2, .int v2), (3, .int v3), (5, .int v5), (6, .int v6)], [.int x17, .ref 90, .long (w.2 90 ((x17 - 1).toNatClampNeg)), .int x8, .int (x17 - 1), .ref 90])) (S' := (am_sh, hx, w.1, w.2)) rfl ?_
            obtain ⟨hn19, hp⟩ := am_ix_e hp
            refine am_Rn.stepG am_h210 (c := x17 < 0 ∨ 330 ≤ x17.toNatClampNeg) (F' := (191, [(4, .int x17), (8, .int x10), (7, .int x8), (0, .ref 83), (2, .int v2), (3, .int v3), (5, .int v5), (6, .int v6)], [.long (w.2 90 (x17.toNatClampNeg)), .long (w.2 90 ((x17 - 1).toNatClampNeg)), .int x8, .int (x17 - 1), .ref 90])) (S' := (am_sh, hx, w.1, w.2)) rfl hn19 ?_
            obtain ⟨r20, h_r20, hp⟩ := am_bind hp
            refine am_Rn.call am_h210 (mj := 208) (As := [.int x8, .long (w.2 90 ((x17 - 1).toNatClampNeg)), .long (w.2 90 (x17.toNatClampNeg))]) (F' := (194, [(4, .int x17), (8, .int x10), (7, .int x8), (0, .ref 83), (2, .int v2), (3, .int v3), (5, .int v5), (6, .int v6)], [.int (x17 - 1), .ref 90])) (M' := am_m208) (r := some (.long r20)) (S1 := (am_sh, hx, w.1, w.2)) rfl am_h208 rfl (ezM_two (by omega) x8 (w.2 90 ((x17 - 1).toNatClampNeg)) (w.2 90 (x17.toNatClampNeg)) _ h_r20) ?_
            obtain ⟨hn21, hp⟩ := am_ix_e hp
            obtain ⟨w22, h_w22, hp⟩ := am_b_e hp
            refine am_Rn.stepG am_h210 (c := (x17 - 1) < 0 ∨ 330 ≤ (x17 - 1).toNatClampNeg) (F' := (195, [(4, .int x17), (8, .int x10), (7, .int x8), (0, .ref 83), (2, .int v2), (3, .int v3), (5, .int v5), (6, .int v6)], [])) (S' := (am_sh, hx, w22.1, w22.2)) (by subst h_w22; rfl) hn21 ?_
            refine am_Rn.run am_h210 3 (F' := (48, [(6, .int (v6 + 1)), (4, .int x17), (8, .int x10), (7, .int x8), (0, .ref 83), (2, .int v2), (3, .int v3), (5, .int v5)], [])) (S' := (am_sh, hx, w22.1, w22.2)) rfl ?_
            refine am_Rn.sub [4, 5, 6, 1, 7, 0] rfl rfl ?_
            exact ezM_work_L48 hd R n v2 v3 x17 v5 (v6 + 1) w22 hp
          · refine am_Rn.run am_h210 2 (F' := (202, [(8, .int x10), (7, .int x8), (0, .ref 83), (2, .int v2), (3, .int v3), (4, .int v4), (5, .int v5), (6, .int v6)], [.int 20, .int x8])) (S' := (am_sh, hx, w.1, w.2)) rfl ?_
            refine am_Rn.ite am_h210 (c := x8 < 20) (t := 205) (f := 242) (lv := [(8, .int x10), (7, .int x8), (0, .ref 83), (2, .int v2), (3, .int v3), (4, .int v4), (5, .int v5), (6, .int v6)]) (st := []) (S' := (am_sh, hx, w.1, w.2)) rfl hp (fun hc23 hp => ?_) (fun hc23 hp => ?_)
            · obtain ⟨x24, h_x24, hp⟩ := am_b_e hp
              refine am_Rn.run am_h210 8 (F' := (222, [(4, .int x24), (8, .int x10), (7, .int x8), (0, .ref 83), (2, .int v2), (3, .int v3), (5, .int v5), (6, .int v6)], [.int x24, .ref 90, .int x8, .int v5, .ref 91])) (S' := (am_sh, hx, w.1, w.2)) (by subst h_x24; rfl) ?_
              obtain ⟨hn25, hp⟩ := am_ix_e hp
              refine am_Rn.stepG am_h210 (c := x24 < 0 ∨ 330 ≤ x24.toNatClampNeg) (F' := (223, [(4, .int x24), (8, .int x10), (7, .int x8), (0, .ref 83), (2, .int v2), (3, .int v3), (5, .int v5), (6, .int v6)], [.long (w.2 90 (x24.toNatClampNeg)), .int x8, .int v5, .ref 91])) (S' := (am_sh, hx, w.1, w.2)) rfl hn25 ?_
              refine am_Rn.run am_h210 5 (F' := (231, [(4, .int x24), (8, .int x10), (7, .int x8), (0, .ref 83), (2, .int v2), (3, .int v3), (5, .int v5), (6, .int v6)], [.int (x24 + 1), .ref 90, .long (w.2 90 (x24.toNatClampNeg)), .int x8, .int v5, .ref 91])) (S' := (am_sh, hx, w.1, w.2)) rfl ?_
              obtain ⟨hn26, hp⟩ := am_ix_e hp
              refine am_Rn.stepG am_h210 (c := (x24 + 1) < 0 ∨ 330 ≤ (x24 + 1).toNatClampNeg) (F' := (232, [(4, .int x24), (8, .int x10), (7, .int x8), (0, .ref 83), (2, .int v2), (3, .int v3), (5, .int v5), (6, .int v6)], [.long (w.2 90 ((x24 + 1).toNatClampNeg)), .long (w.2 90 (x24.toNatClampNeg)), .int x8, .int v5, .ref 91])) (S' := (am_sh, hx, w.1, w.2)) rfl hn26 ?_
              obtain ⟨r27, h_r27, hp⟩ := am_b_e hp
              refine am_Rn.call am_h210 (mj := 209) (As := [.int x8, .long (w.2 90 (x24.toNatClampNeg)), .long (w.2 90 ((x24 + 1).toNatClampNeg))]) (F' := (235, [(4, .int x24), (8, .int x10), (7, .int x8), (0, .ref 83), (2, .int v2), (3, .int v3), (5, .int v5), (6, .int v6)], [.int v5, .ref 91])) (M' := am_m209) (r := some (.int r27)) (S1 := (am_sh, hx, w.1, w.2)) rfl am_h209 rfl (by subst h_r27; exact (ezM_isAsked (by omega) x8 (w.2 90 (x24.toNatClampNeg)) (w.2 90 ((x24 + 1).toNatClampNeg)))) ?_
              obtain ⟨hn28, hp⟩ := am_ix_e hp
              obtain ⟨w29, h_w29, hp⟩ := am_b_e hp
              refine am_Rn.stepG am_h210 (c := v5 < 0 ∨ 330 ≤ v5.toNatClampNeg) (F' := (236, [(4, .int x24), (8, .int x10), (7, .int x8), (0, .ref 83), (2, .int v2), (3, .int v3), (5, .int v5), (6, .int v6)], [])) (S' := (am_sh, hx, w29.1, w29.2)) (by subst h_w29; rfl) hn28 ?_
              refine am_Rn.run am_h210 4 (F' := (48, [(6, .int (v6 + 1)), (5, .int (v5 + 1)), (4, .int x24), (8, .int x10), (7, .int x8), (0, .ref 83), (2, .int v2), (3, .int v3)], [])) (S' := (am_sh, hx, w29.1, w29.2)) rfl ?_
              refine am_Rn.sub [5, 6, 7, 2, 1, 0] rfl rfl ?_
              exact ezM_work_L48 hd R n v2 v3 x24 (v5 + 1) (v6 + 1) w29 hp
            · refine am_Rn.run am_h210 2 (F' := (246, [(8, .int x10), (7, .int x8), (0, .ref 83), (2, .int v2), (3, .int v3), (4, .int v4), (5, .int v5), (6, .int v6)], [.int 20, .int x8])) (S' := (am_sh, hx, w.1, w.2)) rfl ?_
              refine am_Rn.ite am_h210 (c := x8 = 20) (t := 249) (f := 278) (lv := [(8, .int x10), (7, .int x8), (0, .ref 83), (2, .int v2), (3, .int v3), (4, .int v4), (5, .int v5), (6, .int v6)]) (st := []) (S' := (am_sh, hx, w.1, w.2)) rfl hp (fun hc30 hp => ?_) (fun hc30 hp => ?_)
              · refine am_Rn.run am_h210 10 (F' := (265, [(8, .int x10), (7, .int x8), (0, .ref 83), (2, .int v2), (3, .int v3), (4, .int v4), (5, .int v5), (6, .int v6)], [.int (v5 - 1), .ref 91, .int (v5 - 1), .ref 91])) (S' := (am_sh, hx, w.1, w.2)) rfl ?_
                obtain ⟨hn31, hp⟩ := am_ix_e hp
                refine am_Rn.stepG am_h210 (c := (v5 - 1) < 0 ∨ 330 ≤ (v5 - 1).toNatClampNeg) (F' := (266, [(8, .int x10), (7, .int x8), (0, .ref 83), (2, .int v2), (3, .int v3), (4, .int v4), (5, .int v5), (6, .int v6)], [.int (w.1 91 ((v5 - 1).toNatClampNeg)), .int (v5 - 1), .ref 91])) (S' := (am_sh, hx, w.1, w.2)) rfl hn31 ?_
                refine am_Rn.ite am_h210 (c := (w.1 91 ((v5 - 1).toNatClampNeg)) = 0) (t := 269) (f := 273) (lv := [(8, .int x10), (7, .int x8), (0, .ref 83), (2, .int v2), (3, .int v3), (4, .int v4), (5, .int v5), (6, .int v6)]) (st := [.int (v5 - 1), .ref 91]) (S' := (am_sh, hx, w.1, w.2)) rfl hp (fun hc32 hp => ?_) (fun hc32 hp => ?_)
                · refine am_Rn.run am_h210 2 (F' := (274, [(8, .int x10), (7, .int x8), (0, .ref 83), (2, .int v2), (3, .int v3), (4, .int v4), (5, .int v5), (6, .int v6)], [.int 1, .int (v5 - 1), .ref 91])) (S' := (am_sh, hx, w.1, w.2)) rfl ?_
                  obtain ⟨hn33, hp⟩ := am_ix_e hp
                  obtain ⟨w34, h_w34, hp⟩ := am_b_e hp
                  refine am_Rn.stepG am_h210 (c := (v5 - 1) < 0 ∨ 330 ≤ (v5 - 1).toNatClampNeg) (F' := (275, [(8, .int x10), (7, .int x8), (0, .ref 83), (2, .int v2), (3, .int v3), (4, .int v4), (5, .int v5), (6, .int v6)], [])) (S' := (am_sh, hx, w34.1, w34.2)) (by subst h_w34; rfl) hn33 ?_
                  refine am_Rn.run am_h210 3 (F' := (48, [(6, .int (v6 + 1)), (8, .int x10), (7, .int x8), (0, .ref 83), (2, .int v2), (3, .int v3), (4, .int v4), (5, .int v5)], [])) (S' := (am_sh, hx, w34.1, w34.2)) rfl ?_
                  refine am_Rn.sub [3, 4, 5, 6, 7, 0] rfl rfl ?_
                  exact ezM_work_L48 hd R n v2 v3 v4 v5 (v6 + 1) w34 hp
                · refine am_Rn.run am_h210 1 (F' := (274, [(8, .int x10), (7, .int x8), (0, .ref 83), (2, .int v2), (3, .int v3), (4, .int v4), (5, .int v5), (6, .int v6)], [.int 0, .int (v5 - 1), .ref 91])) (S' := (am_sh, hx, w.1, w.2)) rfl ?_
                  obtain ⟨hn35, hp⟩ := am_ix_e hp
                  obtain ⟨w36, h_w36, hp⟩ := am_b_e hp
                  refine am_Rn.stepG am_h210 (c := (v5 - 1) < 0 ∨ 330 ≤ (v5 - 1).toNatClampNeg) (F' := (275, [(8, .int x10), (7, .int x8), (0, .ref 83), (2, .int v2), (3, .int v3), (4, .int v4), (5, .int v5), (6, .int v6)], [])) (S' := (am_sh, hx, w36.1, w36.2)) (by subst h_w36; rfl) hn35 ?_
                  refine am_Rn.run am_h210 3 (F' := (48, [(6, .int (v6 + 1)), (8, .int x10), (7, .int x8), (0, .ref 83), (2, .int v2), (3, .int v3), (4, .int v4), (5, .int v5)], [])) (S' := (am_sh, hx, w36.1, w36.2)) rfl ?_
                  refine am_Rn.sub [3, 4, 5, 6, 7, 0] rfl rfl ?_
                  exact ezM_work_L48 hd R n v2 v3 v4 v5 (v6 + 1) w36 hp
              · obtain ⟨x37, h_x37, hp⟩ := am_b_e hp
                refine am_Rn.run am_h210 8 (F' := (293, [(5, .int x37), (8, .int x10), (7, .int x8), (0, .ref 83), (2, .int v2), (3, .int v3), (4, .int v4), (6, .int v6)], [.int 21, .int x8, .int (x37 - 1), .ref 91])) (S' := (am_sh, hx, w.1, w.2)) (by subst h_x37; rfl) ?_
                refine am_Rn.ite am_h210 (c := x8 = 21) (t := 296) (f := 326) (lv := [(5, .int x37), (8, .int x10), (7, .int x8), (0, .ref 83), (2, .int v2), (3, .int v3), (4, .int v4), (6, .int v6)]) (st := [.int (x37 - 1), .ref 91]) (S' := (am_sh, hx, w.1, w.2)) rfl hp (fun hc38 hp => ?_) (fun hc38 hp => ?_)
                · refine am_Rn.run am_h210 5 (F' := (304, [(5, .int x37), (8, .int x10), (7, .int x8), (0, .ref 83), (2, .int v2), (3, .int v3), (4, .int v4), (6, .int v6)], [.int (x37 - 1), .ref 91, .int (x37 - 1), .ref 91])) (S' := (am_sh, hx, w.1, w.2)) rfl ?_
                  obtain ⟨hn39, hp⟩ := am_ix_e hp
                  refine am_Rn.stepG am_h210 (c := (x37 - 1) < 0 ∨ 330 ≤ (x37 - 1).toNatClampNeg) (F' := (305, [(5, .int x37), (8, .int x10), (7, .int x8), (0, .ref 83), (2, .int v2), (3, .int v3), (4, .int v4), (6, .int v6)], [.int (w.1 91 ((x37 - 1).toNatClampNeg)), .int (x37 - 1), .ref 91])) (S' := (am_sh, hx, w.1, w.2)) rfl hn39 ?_
                  refine am_Rn.ite am_h210 (c := (w.1 91 ((x37 - 1).toNatClampNeg)) = 0) (t := 322) (f := 308) (lv := [(5, .int x37), (8, .int x10), (7, .int x8), (0, .ref 83), (2, .int v2), (3, .int v3), (4, .int v4), (6, .int v6)]) (st := [.int (x37 - 1), .ref 91]) (S' := (am_sh, hx, w.1, w.2)) rfl hp (fun hc40 hp => ?_) (fun hc40 hp => ?_)
                  · refine am_Rn.run am_h210 2 (F' := (353, [(5, .int x37), (8, .int x10), (7, .int x8), (0, .ref 83), (2, .int v2), (3, .int v3), (4, .int v4), (6, .int v6)], [.int 0, .int (x37 - 1), .ref 91])) (S' := (am_sh, hx, w.1, w.2)) rfl ?_
                    obtain ⟨hn41, hp⟩ := am_ix_e hp
                    obtain ⟨w42, h_w42, hp⟩ := am_b_e hp
                    refine am_Rn.stepG am_h210 (c := (x37 - 1) < 0 ∨ 330 ≤ (x37 - 1).toNatClampNeg) (F' := (354, [(5, .int x37), (8, .int x10), (7, .int x8), (0, .ref 83), (2, .int v2), (3, .int v3), (4, .int v4), (6, .int v6)], [])) (S' := (am_sh, hx, w42.1, w42.2)) (by subst h_w42; rfl) hn41 ?_
                    refine am_Rn.run am_h210 2 (F' := (48, [(6, .int (v6 + 1)), (5, .int x37), (8, .int x10), (7, .int x8), (0, .ref 83), (2, .int v2), (3, .int v3), (4, .int v4)], [])) (S' := (am_sh, hx, w42.1, w42.2)) rfl ?_
                    refine am_Rn.sub [4, 5, 6, 7, 1, 0] rfl rfl ?_
                    exact ezM_work_L48 hd R n v2 v3 v4 x37 (v6 + 1) w42 hp
                  · refine am_Rn.run am_h210 3 (F' := (314, [(5, .int x37), (8, .int x10), (7, .int x8), (0, .ref 83), (2, .int v2), (3, .int v3), (4, .int v4), (6, .int v6)], [.int x37, .ref 91, .int (x37 - 1), .ref 91])) (S' := (am_sh, hx, w.1, w.2)) rfl ?_
                    obtain ⟨hn43, hp⟩ := am_ix_e hp
                    refine am_Rn.stepG am_h210 (c := x37 < 0 ∨ 330 ≤ x37.toNatClampNeg) (F' := (315, [(5, .int x37), (8, .int x10), (7, .int x8), (0, .ref 83), (2, .int v2), (3, .int v3), (4, .int v4), (6, .int v6)], [.int (w.1 91 (x37.toNatClampNeg)), .int (x37 - 1), .ref 91])) (S' := (am_sh, hx, w.1, w.2)) rfl hn43 ?_
                    refine am_Rn.ite am_h210 (c := (w.1 91 (x37.toNatClampNeg)) = 0) (t := 322) (f := 318) (lv := [(5, .int x37), (8, .int x10), (7, .int x8), (0, .ref 83), (2, .int v2), (3, .int v3), (4, .int v4), (6, .int v6)]) (st := [.int (x37 - 1), .ref 91]) (S' := (am_sh, hx, w.1, w.2)) rfl hp (fun hc44 hp => ?_) (fun hc44 hp => ?_)
                    · refine am_Rn.run am_h210 2 (F' := (353, [(5, .int x37), (8, .int x10), (7, .int x8), (0, .ref 83), (2, .int v2), (3, .int v3), (4, .int v4), (6, .int v6)], [.int 0, .int (x37 - 1), .ref 91])) (S' := (am_sh, hx, w.1, w.2)) rfl ?_
                      obtain ⟨hn45, hp⟩ := am_ix_e hp
                      obtain ⟨w46, h_w46, hp⟩ := am_b_e hp
                      refine am_Rn.stepG am_h210 (c := (x37 - 1) < 0 ∨ 330 ≤ (x37 - 1).toNatClampNeg) (F' := (354, [(5, .int x37), (8, .int x10), (7, .int x8), (0, .ref 83), (2, .int v2), (3, .int v3), (4, .int v4), (6, .int v6)], [])) (S' := (am_sh, hx, w46.1, w46.2)) (by subst h_w46; rfl) hn45 ?_
                      refine am_Rn.run am_h210 2 (F' := (48, [(6, .int (v6 + 1)), (5, .int x37), (8, .int x10), (7, .int x8), (0, .ref 83), (2, .int v2), (3, .int v3), (4, .int v4)], [])) (S' := (am_sh, hx, w46.1, w46.2)) rfl ?_
                      refine am_Rn.sub [4, 5, 6, 7, 1, 0] rfl rfl ?_
                      exact ezM_work_L48 hd R n v2 v3 v4 x37 (v6 + 1) w46 hp
                    · refine am_Rn.run am_h210 2 (F' := (353, [(5, .int x37), (8, .int x10), (7, .int x8), (0, .ref 83), (2, .int v2), (3, .int v3), (4, .int v4), (6, .int v6)], [.int 1, .int (x37 - 1), .ref 91])) (S' := (am_sh, hx, w.1, w.2)) rfl ?_
                      obtain ⟨hn47, hp⟩ := am_ix_e hp
                      obtain ⟨w48, h_w48, hp⟩ := am_b_e hp
                      refine am_Rn.stepG am_h210 (c := (x37 - 1) < 0 ∨ 330 ≤ (x37 - 1).toNatClampNeg) (F' := (354, [(5, .int x37), (8, .int x10), (7, .int x8), (0, .ref 83), (2, .int v2), (3, .int v3), (4, .int v4), (6, .int v6)], [])) (S' := (am_sh, hx, w48.1, w48.2)) (by subst h_w48; rfl) hn47 ?_
                      refine am_Rn.run am_h210 2 (F' := (48, [(6, .int (v6 + 1)), (5, .int x37), (8, .int x10), (7, .int x8), (0, .ref 83), (2, .int v2), (3, .int v3), (4, .int v4)], [])) (S' := (am_sh, hx, w48.1, w48.2)) rfl ?_
                      refine am_Rn.sub [4, 5, 6, 7, 1, 0] rfl rfl ?_
                      exact ezM_work_L48 hd R n v2 v3 v4 x37 (v6 + 1) w48 hp
                · refine am_Rn.run am_h210 5 (F' := (334, [(5, .int x37), (8, .int x10), (7, .int x8), (0, .ref 83), (2, .int v2), (3, .int v3), (4, .int v4), (6, .int v6)], [.int (x37 - 1), .ref 91, .int (x37 - 1), .ref 91])) (S' := (am_sh, hx, w.1, w.2)) rfl ?_
                  obtain ⟨hn49, hp⟩ := am_ix_e hp
                  refine am_Rn.stepG am_h210 (c := (x37 - 1) < 0 ∨ 330 ≤ (x37 - 1).toNatClampNeg) (F' := (335, [(5, .int x37), (8, .int x10), (7, .int x8), (0, .ref 83), (2, .int v2), (3, .int v3), (4, .int v4), (6, .int v6)], [.int (w.1 91 ((x37 - 1).toNatClampNeg)), .int (x37 - 1), .ref 91])) (S' := (am_sh, hx, w.1, w.2)) rfl hn49 ?_
                  refine am_Rn.ite am_h210 (c := (w.1 91 ((x37 - 1).toNatClampNeg)) = 0) (t := 338) (f := 348) (lv := [(5, .int x37), (8, .int x10), (7, .int x8), (0, .ref 83), (2, .int v2), (3, .int v3), (4, .int v4), (6, .int v6)]) (st := [.int (x37 - 1), .ref 91]) (S' := (am_sh, hx, w.1, w.2)) rfl hp (fun hc50 hp => ?_) (fun hc50 hp => ?_)
                  · refine am_Rn.run am_h210 3 (F' := (344, [(5, .int x37), (8, .int x10), (7, .int x8), (0, .ref 83), (2, .int v2), (3, .int v3), (4, .int v4), (6, .int v6)], [.int x37, .ref 91, .int (x37 - 1), .ref 91])) (S' := (am_sh, hx, w.1, w.2)) rfl ?_
                    obtain ⟨hn51, hp⟩ := am_ix_e hp
                    refine am_Rn.stepG am_h210 (c := x37 < 0 ∨ 330 ≤ x37.toNatClampNeg) (F' := (345, [(5, .int x37), (8, .int x10), (7, .int x8), (0, .ref 83), (2, .int v2), (3, .int v3), (4, .int v4), (6, .int v6)], [.int (w.1 91 (x37.toNatClampNeg)), .int (x37 - 1), .ref 91])) (S' := (am_sh, hx, w.1, w.2)) rfl hn51 ?_
                    refine am_Rn.ite am_h210 (c := (w.1 91 (x37.toNatClampNeg)) = 0) (t := 352) (f := 348) (lv := [(5, .int x37), (8, .int x10), (7, .int x8), (0, .ref 83), (2, .int v2), (3, .int v3), (4, .int v4), (6, .int v6)]) (st := [.int (x37 - 1), .ref 91]) (S' := (am_sh, hx, w.1, w.2)) rfl hp (fun hc52 hp => ?_) (fun hc52 hp => ?_)
                    · refine am_Rn.run am_h210 1 (F' := (353, [(5, .int x37), (8, .int x10), (7, .int x8), (0, .ref 83), (2, .int v2), (3, .int v3), (4, .int v4), (6, .int v6)], [.int 0, .int (x37 - 1), .ref 91])) (S' := (am_sh, hx, w.1, w.2)) rfl ?_
                      obtain ⟨hn53, hp⟩ := am_ix_e hp
                      obtain ⟨w54, h_w54, hp⟩ := am_b_e hp
                      refine am_Rn.stepG am_h210 (c := (x37 - 1) < 0 ∨ 330 ≤ (x37 - 1).toNatClampNeg) (F' := (354, [(5, .int x37), (8, .int x10), (7, .int x8), (0, .ref 83), (2, .int v2), (3, .int v3), (4, .int v4), (6, .int v6)], [])) (S' := (am_sh, hx, w54.1, w54.2)) (by subst h_w54; rfl) hn53 ?_
                      refine am_Rn.run am_h210 2 (F' := (48, [(6, .int (v6 + 1)), (5, .int x37), (8, .int x10), (7, .int x8), (0, .ref 83), (2, .int v2), (3, .int v3), (4, .int v4)], [])) (S' := (am_sh, hx, w54.1, w54.2)) rfl ?_
                      refine am_Rn.sub [4, 5, 6, 7, 1, 0] rfl rfl ?_
                      exact ezM_work_L48 hd R n v2 v3 v4 x37 (v6 + 1) w54 hp
                    · refine am_Rn.run am_h210 2 (F' := (353, [(5, .int x37), (8, .int x10), (7, .int x8), (0, .ref 83), (2, .int v2), (3, .int v3), (4, .int v4), (6, .int v6)], [.int 1, .int (x37 - 1), .ref 91])) (S' := (am_sh, hx, w.1, w.2)) rfl ?_
                      obtain ⟨hn55, hp⟩ := am_ix_e hp
                      obtain ⟨w56, h_w56, hp⟩ := am_b_e hp
                      refine am_Rn.stepG am_h210 (c := (x37 - 1) < 0 ∨ 330 ≤ (x37 - 1).toNatClampNeg) (F' := (354, [(5, .int x37), (8, .int x10), (7, .int x8), (0, .ref 83), (2, .int v2), (3, .int v3), (4, .int v4), (6, .int v6)], [])) (S' := (am_sh, hx, w56.1, w56.2)) (by subst h_w56; rfl) hn55 ?_
                      refine am_Rn.run am_h210 2 (F' := (48, [(6, .int (v6 + 1)), (5, .int x37), (8, .int x10), (7, .int x8), (0, .ref 83), (2, .int v2), (3, .int v3), (4, .int v4)], [])) (S' := (am_sh, hx, w56.1, w56.2)) rfl ?_
                      refine am_Rn.sub [4, 5, 6, 7, 1, 0] rfl rfl ?_
                      exact ezM_work_L48 hd R n v2 v3 v4 x37 (v6 + 1) w56 hp
                  · refine am_Rn.run am_h210 2 (F' := (353, [(5, .int x37), (8, .int x10), (7, .int x8), (0, .ref 83), (2, .int v2), (3, .int v3), (4, .int v4), (6, .int v6)], [.int 1, .int (x37 - 1), .ref 91])) (S' := (am_sh, hx, w.1, w.2)) rfl ?_
                    obtain ⟨hn57, hp⟩ := am_ix_e hp
                    obtain ⟨w58, h_w58, hp⟩ := am_b_e hp
                    refine am_Rn.stepG am_h210 (c := (x37 - 1) < 0 ∨ 330 ≤ (x37 - 1).toNatClampNeg) (F' := (354, [(5, .int x37), (8, .int x10), (7, .int x8), (0, .ref 83), (2, .int v2), (3, .int v3), (4, .int v4), (6, .int v6)], [])) (S' := (am_sh, hx, w58.1, w58.2)) (by subst h_w58; rfl) hn57 ?_
                    refine am_Rn.run am_h210 2 (F' := (48, [(6, .int (v6 + 1)), (5, .int x37), (8, .int x10), (7, .int x8), (0, .ref 83), (2, .int v2), (3, .int v3), (4, .int v4)], [])) (S' := (am_sh, hx, w58.1, w58.2)) rfl ?_
                    refine am_Rn.sub [4, 5, 6, 7, 1, 0] rfl rfl ?_
                    exact ezM_work_L48 hd R n v2 v3 v4 x37 (v6 + 1) w58 hp
      · refine am_Rn.run am_h210 4 (F' := (103, [(8, .int x10), (7, .int x8), (0, .ref 83), (2, .int v2), (3, .int v3), (4, .int v4), (5, .int v5), (6, .int v6)], [.int x8, .int v4, .ref 90])) (S' := (am_sh, hx, w.1, w.2)) rfl ?_
        refine am_Rn.ite am_h210 (c := x8 = 0) (t := 106) (f := 112) (lv := [(8, .int x10), (7, .int x8), (0, .ref 83), (2, .int v2), (3, .int v3), (4, .int v4), (5, .int v5), (6, .int v6)]) (st := [.int v4, .ref 90]) (S' := (am_sh, hx, w.1, w.2)) rfl hp (fun hc59 hp => ?_) (fun hc59 hp => ?_)
        · refine am_Rn.run am_h210 3 (F' := (120, [(8, .int x10), (7, .int x8), (0, .ref 83), (2, .int v2), (3, .int v3), (4, .int v4), (5, .int v5), (6, .int v6)], [.long (x10.toInt64), .int v4, .ref 90])) (S' := (am_sh, hx, w.1, w.2)) rfl ?_
          obtain ⟨hn60, hp⟩ := am_ix_e hp
          obtain ⟨w61, h_w61, hp⟩ := am_b_e hp
          refine am_Rn.stepG am_h210 (c := v4 < 0 ∨ 330 ≤ v4.toNatClampNeg) (F' := (121, [(8, .int x10), (7, .int x8), (0, .ref 83), (2, .int v2), (3, .int v3), (4, .int v4), (5, .int v5), (6, .int v6)], [])) (S' := (am_sh, hx, w61.1, w61.2)) (by subst h_w61; rfl) hn60 ?_
          refine am_Rn.run am_h210 4 (F' := (48, [(6, .int (v6 + 1)), (4, .int (v4 + 1)), (8, .int x10), (7, .int x8), (0, .ref 83), (2, .int v2), (3, .int v3), (5, .int v5)], [])) (S' := (am_sh, hx, w61.1, w61.2)) rfl ?_
          refine am_Rn.sub [4, 5, 6, 1, 7, 0] rfl rfl ?_
          exact ezM_work_L48 hd R n v2 v3 (v4 + 1) v5 (v6 + 1) w61 hp
        · refine am_Rn.run am_h210 3 (F' := (118, [(8, .int x10), (7, .int x8), (0, .ref 83), (2, .int v2), (3, .int v3), (4, .int v4), (5, .int v5), (6, .int v6)], [.int x10, .ref 89, .int v4, .ref 90])) (S' := (am_sh, hx, w.1, w.2)) rfl ?_
          obtain ⟨hn62, hp⟩ := am_ix_e hp
          refine am_Rn.stepG am_h210 (c := x10 < 0 ∨ 10 ≤ x10.toNatClampNeg) (F' := (119, [(8, .int x10), (7, .int x8), (0, .ref 83), (2, .int v2), (3, .int v3), (4, .int v4), (5, .int v5), (6, .int v6)], [.int (w.1 89 (x10.toNatClampNeg)), .int v4, .ref 90])) (S' := (am_sh, hx, w.1, w.2)) rfl hn62 ?_
          refine am_Rn.run am_h210 1 (F' := (120, [(8, .int x10), (7, .int x8), (0, .ref 83), (2, .int v2), (3, .int v3), (4, .int v4), (5, .int v5), (6, .int v6)], [.long ((w.1 89 (x10.toNatClampNeg)).toInt64), .int v4, .ref 90])) (S' := (am_sh, hx, w.1, w.2)) rfl ?_
          obtain ⟨hn63, hp⟩ := am_ix_e hp
          obtain ⟨w64, h_w64, hp⟩ := am_b_e hp
          refine am_Rn.stepG am_h210 (c := v4 < 0 ∨ 330 ≤ v4.toNatClampNeg) (F' := (121, [(8, .int x10), (7, .int x8), (0, .ref 83), (2, .int v2), (3, .int v3), (4, .int v4), (5, .int v5), (6, .int v6)], [])) (S' := (am_sh, hx, w64.1, w64.2)) (by subst h_w64; rfl) hn63 ?_
          refine am_Rn.run am_h210 4 (F' := (48, [(6, .int (v6 + 1)), (4, .int (v4 + 1)), (8, .int x10), (7, .int x8), (0, .ref 83), (2, .int v2), (3, .int v3), (5, .int v5)], [])) (S' := (am_sh, hx, w64.1, w64.2)) rfl ?_
          refine am_Rn.sub [4, 5, 6, 1, 7, 0] rfl rfl ?_
          exact ezM_work_L48 hd R n v2 v3 (v4 + 1) v5 (v6 + 1) w64 hp
    · cases hp
      exact am_Rn.ret am_h210 rfl
def zM_work (v1 : Int32) (w : zHM) : Option (zHM) := am_b (((790 * (w.1 84 5)) + 1) + (3 * v1)) fun x1 => am_b ((790 * (w.1 84 5)) + 185) fun x2 => am_ix 3160 (x1 + 1) (am_b (w.1 86 ((x1 + 1).toNatClampNeg)) fun x4 => zM_work_L48 am_N x1 x2 0 0 x4 w)
set_option maxRecDepth 20000 in
theorem ezM_work {d : Nat} (hd : 2 ≤ d) (v1 : Int32) (w : zHM) (R : zHM) (hp : zM_work v1 w = some R) : am_Ev 83 Xs am_P d 210 [.ref 83, .int v1] (am_sh, hx, w.1, w.2) (none, (am_sh, hx, R.1, R.2)) := by
  obtain ⟨d, rfl⟩ : ∃ k, d = k + 1 := ⟨d - 1, by omega⟩
  unfold zM_work at hp
  show am_Rn 83 Xs am_P _ 210 (0, [(0, .ref 83), (1, .int v1)], []) _ _
  obtain ⟨x1, h_x1, hp⟩ := am_b_e hp
  obtain ⟨x2, h_x2, hp⟩ := am_b_e hp
  refine am_Rn.run am_h210 31 (F' := (45, [(5, .int 0), (4, .int 0), (3, .int x2), (2, .int x1), (0, .ref 83), (1, .int v1)], [.int (x1 + 1), .ref 86])) (S' := (am_sh, hx, w.1, w.2)) (by subst h_x1; subst h_x2; rfl) ?_
  obtain ⟨hn3, hp⟩ := am_ix_e hp
  refine am_Rn.stepG am_h210 (c := (x1 + 1) < 0 ∨ 3160 ≤ (x1 + 1).toNatClampNeg) (F' := (46, [(5, .int 0), (4, .int 0), (3, .int x2), (2, .int x1), (0, .ref 83), (1, .int v1)], [.int (w.1 86 ((x1 + 1).toNatClampNeg))])) (S' := (am_sh, hx, w.1, w.2)) rfl hn3 ?_
  obtain ⟨x4, h_x4, hp⟩ := am_b_e hp
  refine am_Rn.run am_h210 1 (F' := (48, [(6, .int x4), (5, .int 0), (4, .int 0), (3, .int x2), (2, .int x1), (0, .ref 83), (1, .int v1)], [])) (S' := (am_sh, hx, w.1, w.2)) (by subst h_x4; rfl) ?_
  refine am_Rn.sub [5, 4, 3, 2, 1, 0] rfl rfl ?_
  exact ezM_work_L48 hd R am_N x1 x2 0 0 x4 w hp
/-- SixHandsModel.isSo(I)Z [83] -/
def zM_isSo (v1 : Int32) (w : zHM) : Option (Int32 × zHM) := (zM_clauseOf v1 w).bind fun r1 => if r1 < 0 then (some ((1, w))) else ((zM_work r1 w).bind fun r3 => some (((r3.1 91 0) &&& 1, r3)))
set_option maxRecDepth 20000 in
theorem ezM_isSo {d : Nat} (hd : 3 ≤ d) (v1 : Int32) (w : zHM) (R : Int32 × zHM) (hp : zM_isSo v1 w = some R) : am_Ev 83 Xs am_P d 212 [.ref 83, .int v1] (am_sh, hx, w.1, w.2) (some (.int R.1), (am_sh, hx, R.2.1, R.2.2)) := by
  obtain ⟨d, rfl⟩ : ∃ k, d = k + 1 := ⟨d - 1, by omega⟩
  unfold zM_isSo at hp
  show am_Rn 83 Xs am_P _ 212 (0, [(0, .ref 83), (1, .int v1)], []) _ _
  refine am_Rn.run am_h212 2 (F' := (2, [(0, .ref 83), (1, .int v1)], [.int v1, .ref 83])) (S' := (am_sh, hx, w.1, w.2)) rfl ?_
  obtain ⟨r1, h_r1, hp⟩ := am_bind hp
  refine am_Rn.call am_h212 (mj := 211) (As := [.ref 83, .int v1]) (F' := (5, [(0, .ref 83), (1, .int v1)], [])) (M' := am_m211) (r := some (.int r1)) (S1 := (am_sh, hx, w.1, w.2)) rfl am_h211 rfl (ezM_clauseOf (by omega) v1 w _ h_r1) ?_
  refine am_Rn.run am_h212 2 (F' := (7, [(2, .int r1), (0, .ref 83), (1, .int v1)], [.int r1])) (S' := (am_sh, hx, w.1, w.2)) rfl ?_
  refine am_Rn.ite am_h212 (c := r1 < 0) (t := 10) (f := 12) (lv := [(2, .int r1), (0, .ref 83), (1, .int v1)]) (st := []) (S' := (am_sh, hx, w.1, w.2)) rfl hp (fun hc2 hp => ?_) (fun hc2 hp => ?_)
  · refine am_Rn.run am_h212 1 (F' := (11, [(2, .int r1), (0, .ref 83), (1, .int v1)], [.int 1])) (S' := (am_sh, hx, w.1, w.2)) rfl ?_
    cases hp
    exact am_Rn.ret am_h212 rfl
  · refine am_Rn.run am_h212 2 (F' := (14, [(2, .int r1), (0, .ref 83), (1, .int v1)], [.int r1, .ref 83])) (S' := (am_sh, hx, w.1, w.2)) rfl ?_
    obtain ⟨r3, h_r3, hp⟩ := am_bind hp
    refine am_Rn.call am_h212 (mj := 210) (As := [.ref 83, .int r1]) (F' := (17, [(2, .int r1), (0, .ref 83), (1, .int v1)], [])) (M' := am_m210) (r := none) (S1 := (am_sh, hx, r3.1, r3.2)) rfl am_h210 rfl (ezM_work (by omega) r1 w _ h_r3) ?_
    refine am_Rn.run am_h212 4 (F' := (23, [(2, .int r1), (0, .ref 83), (1, .int v1)], [.int (r3.1 91 0)])) (S' := (am_sh, hx, r3.1, r3.2)) rfl ?_
    cases hp
    exact am_Rn.ret am_h212 rfl
/-- SixHandsModel.may(III)Z [83] -/
def zM_may_J41 (s1 : Int32) (s2 : Int32) (w : zHM) : Option (Int32 × zHM) := am_ix 10 s1 (am_b ((va_up w.1 89 (upd (w.1 89) (s1.toNatClampNeg) s2), w.2)) fun w8 => (zM_isSo 0 w8).bind fun r9 => some ((r9.1 &&& 1, r9.2)))
set_option maxRecDepth 20000 in
theorem ezM_may_J41 {d : Nat} (hd : 4 ≤ d) (R : Int32 × zHM) (s1 : Int32) (s2 : Int32) (w : zHM) (hp : zM_may_J41 s1 s2 w = some R) : am_Rn 83 Xs am_P d 215 (41, [(0, .ref 83)], [.int s2, .int s1, .ref 89]) (am_sh, hx, w.1, w.2) (some (.int R.1), (am_sh, hx, R.2.1, R.2.2)) := by
  obtain ⟨d, rfl⟩ : ∃ k, d = k + 1 := ⟨d - 1, by omega⟩
  unfold zM_may_J41 at hp
  obtain ⟨hn7, hp⟩ := am_ix_e hp
  obtain ⟨w8, h_w8, hp⟩ := am_b_e hp
  refine am_Rn.stepG am_h215 (c := s1 < 0 ∨ 10 ≤ s1.toNatClampNeg) (F' := (42, [(0, .ref 83)], [])) (S' := (am_sh, hx, w8.1, w8.2)) (by subst h_w8; rfl) hn7 ?_
  refine am_Rn.run am_h215 2 (F' := (44, [(0, .ref 83)], [.int 0, .ref 83])) (S' := (am_sh, hx, w8.1, w8.2)) rfl ?_
  obtain ⟨r9, h_r9, hp⟩ := am_bind hp
  refine am_Rn.call am_h215 (mj := 212) (As := [.ref 83, .int 0]) (F' := (47, [(0, .ref 83)], [])) (M' := am_m212) (r := some (.int r9.1)) (S1 := (am_sh, hx, r9.2.1, r9.2.2)) rfl am_h212 rfl (ezM_isSo (by omega) 0 w8 _ h_r9) ?_
  cases hp
  exact am_Rn.ret am_h215 rfl
def zM_may (v1 : Int32) (v2 : Int32) (v3 : Int32) (w : zHM) : Option (Int32 × zHM) := (zM_name v1 v2 w).bind fun r1 => (zM_lowest v3).bind fun r2 => am_b ((va_up r1.1 89 (upd (r1.1 89) 4 (r2 / 2)), r1.2)) fun w3 => (zM_bits v3).bind fun r4 => if r4 = 1 then ((zM_lowest v3).bind fun r6 => zM_may_J41 5 (r6 - r6 / 2 * 2) w3) else (zM_may_J41 5 0 w3)
set_option maxRecDepth 20000 in
theorem ezM_may {d : Nat} (hd : 4 ≤ d) (v1 : Int32) (v2 : Int32) (v3 : Int32) (w : zHM) (R : Int32 × zHM) (hp : zM_may v1 v2 v3 w = some R) : am_Ev 83 Xs am_P d 215 [.ref 83, .int v1, .int v2, .int v3] (am_sh, hx, w.1, w.2) (some (.int R.1), (am_sh, hx, R.2.1, R.2.2)) := by
  obtain ⟨d, rfl⟩ : ∃ k, d = k + 1 := ⟨d - 1, by omega⟩
  unfold zM_may at hp
  show am_Rn 83 Xs am_P _ 215 (0, [(0, .ref 83), (1, .int v1), (2, .int v2), (3, .int v3)], []) _ _
  refine am_Rn.run am_h215 3 (F' := (3, [(0, .ref 83), (1, .int v1), (2, .int v2), (3, .int v3)], [.int v2, .int v1, .ref 83])) (S' := (am_sh, hx, w.1, w.2)) rfl ?_
  obtain ⟨r1, h_r1, hp⟩ := am_bind hp
  refine am_Rn.call am_h215 (mj := 213) (As := [.ref 83, .int v1, .int v2]) (F' := (6, [(0, .ref 83), (1, .int v1), (2, .int v2), (3, .int v3)], [])) (M' := am_m213) (r := none) (S1 := (am_sh, hx, r1.1, r1.2)) rfl am_h213 rfl (ezM_name (by omega) v1 v2 w _ h_r1) ?_
  refine am_Rn.run am_h215 4 (F' := (12, [(0, .ref 83), (1, .int v1), (2, .int v2), (3, .int v3)], [.int v3, .int 4, .ref 89])) (S' := (am_sh, hx, r1.1, r1.2)) rfl ?_
  obtain ⟨r2, h_r2, hp⟩ := am_bind hp
  refine am_Rn.call am_h215 (mj := 214) (As := [.int v3]) (F' := (15, [(0, .ref 83), (1, .int v1), (2, .int v2), (3, .int v3)], [.int 4, .ref 89])) (M' := am_m214) (r := some (.int r2)) (S1 := (am_sh, hx, r1.1, r1.2)) rfl am_h214 rfl (ezM_lowest (by omega) v3 _ h_r2) ?_
  obtain ⟨w3, h_w3, hp⟩ := am_b_e hp
  refine am_Rn.run am_h215 7 (F' := (24, [(0, .ref 83), (1, .int v1), (2, .int v2), (3, .int v3)], [.int v3, .int 5, .ref 89])) (S' := (am_sh, hx, w3.1, w3.2)) (by subst h_w3; rfl) ?_
  obtain ⟨r4, h_r4, hp⟩ := am_bind hp
  refine am_Rn.call am_h215 (mj := 161) (As := [.int v3]) (F' := (27, [(0, .ref 83), (1, .int v1), (2, .int v2), (3, .int v3)], [.int 5, .ref 89])) (M' := am_m161) (r := some (.int r4)) (S1 := (am_sh, hx, w3.1, w3.2)) rfl am_h161 rfl (ezM_bits (by omega) v3 _ h_r4) ?_
  refine am_Rn.run am_h215 1 (F' := (28, [(0, .ref 83), (1, .int v1), (2, .int v2), (3, .int v3)], [.int 1, .int r4, .int 5, .ref 89])) (S' := (am_sh, hx, w3.1, w3.2)) rfl ?_
  refine am_Rn.ite am_h215 (c := r4 = 1) (t := 31) (f := 40) (lv := [(0, .ref 83), (1, .int v1), (2, .int v2), (3, .int v3)]) (st := [.int 5, .ref 89]) (S' := (am_sh, hx, w3.1, w3.2)) rfl hp (fun hc5 hp => ?_) (fun hc5 hp => ?_)
  · refine am_Rn.run am_h215 1 (F' := (32, [(0, .ref 83), (1, .int v1), (2, .int v2), (3, .int v3)], [.int v3, .int 5, .ref 89])) (S' := (am_sh, hx, w3.1, w3.2)) rfl ?_
    obtain ⟨r6, h_r6, hp⟩ := am_bind hp
    refine am_Rn.call am_h215 (mj := 214) (As := [.int v3]) (F' := (35, [(0, .ref 83), (1, .int v1), (2, .int v2), (3, .int v3)], [.int 5, .ref 89])) (M' := am_m214) (r := some (.int r6)) (S1 := (am_sh, hx, w3.1, w3.2)) rfl am_h214 rfl (ezM_lowest (by omega) v3 _ h_r6) ?_
    refine am_Rn.run am_h215 3 (F' := (41, [(0, .ref 83), (1, .int v1), (2, .int v2), (3, .int v3)], [.int (r6 - r6 / 2 * 2), .int 5, .ref 89])) (S' := (am_sh, hx, w3.1, w3.2)) rfl ?_
    refine am_Rn.sub [0] rfl rfl ?_
    exact ezM_may_J41 hd R 5 (r6 - r6 / 2 * 2) w3 hp
  · refine am_Rn.run am_h215 1 (F' := (41, [(0, .ref 83), (1, .int v1), (2, .int v2), (3, .int v3)], [.int 0, .int 5, .ref 89])) (S' := (am_sh, hx, w3.1, w3.2)) rfl ?_
    refine am_Rn.sub [0] rfl rfl ?_
    exact ezM_may_J41 hd R 5 0 w3 hp
/-- SixHandsModel.areHung(I)Z [83] -/
def zM_areHung_J37 (k10 : Int32 → Int32 → Int32 → Int32 → zHM → Option (Int32)) (v1 : Int32) (v3 : Int32) (v4 : Int32) (s0 : Int32) (s1 : Int32) (w : zHM) : Option (Int32) := am_b (s0 + s1) fun x5 => (zM_heldBy v1 v4 w).bind fun r6 => (zM_bits r6).bind fun r7 => am_b (v3 - r7) fun x8 => k10 v1 x5 x8 (v4 + 1) w
set_option maxRecDepth 20000 in
theorem ezM_areHung_J37 {d : Nat} (hd : 1 ≤ d) (R : Int32) (k10 : Int32 → Int32 → Int32 → Int32 → zHM → Option (Int32)) (hk10 : ∀ (v1 : Int32) (v2 : Int32) (v3 : Int32) (v4 : Int32) (w : zHM), k10 v1 v2 v3 v4 w = some R → am_Rn 83 Xs am_P d 223 (10, [(0, .ref 83), (1, .int v1), (2, .int v2), (3, .int v3), (4, .int v4)], []) (am_sh, hx, w.1, w.2) (some (.int R), (am_sh, hx, w.1, w.2))) (v1 : Int32) (v3 : Int32) (v4 : Int32) (s0 : Int32) (s1 : Int32) (w : zHM) (hp : zM_areHung_J37 k10 v1 v3 v4 s0 s1 w = some R) : am_Rn 83 Xs am_P d 223 (37, [(0, .ref 83), (1, .int v1), (3, .int v3), (4, .int v4)], [.int s1, .int s0]) (am_sh, hx, w.1, w.2) (some (.int R), (am_sh, hx, w.1, w.2)) := by
  obtain ⟨d, rfl⟩ : ∃ k, d = k + 1 := ⟨d - 1, by omega⟩
  unfold zM_areHung_J37 at hp
  obtain ⟨x5, h_x5, hp⟩ := am_b_e hp
  refine am_Rn.run am_h223 6 (F' := (44, [(2, .int x5), (0, .ref 83), (1, .int v1), (3, .int v3), (4, .int v4)], [.int v4, .int v1, .ref 83, .int v3])) (S' := (am_sh, hx, w.1, w.2)) (by subst h_x5; rfl) ?_
  obtain ⟨r6, h_r6, hp⟩ := am_bind hp
  refine am_Rn.call am_h223 (mj := 160) (As := [.ref 83, .int v1, .int v4]) (F' := (47, [(2, .int x5), (0, .ref 83), (1, .int v1), (3, .int v3), (4, .int v4)], [.int v3])) (M' := am_m160) (r := some (.int r6)) (S1 := (am_sh, hx, w.1, w.2)) rfl am_h160 rfl (ezM_heldBy (by omega) v1 v4 w _ h_r6) ?_
  obtain ⟨r7, h_r7, hp⟩ := am_bind hp
  refine am_Rn.call am_h223 (mj := 161) (As := [.int r6]) (F' := (50, [(2, .int x5), (0, .ref 83), (1, .int v1), (3, .int v3), (4, .int v4)], [.int v3])) (M' := am_m161) (r := some (.int r7)) (S1 := (am_sh, hx, w.1, w.2)) rfl am_h161 rfl (ezM_bits (by omega) r6 _ h_r7) ?_
  obtain ⟨x8, h_x8, hp⟩ := am_b_e hp
  refine am_Rn.run am_h223 4 (F' := (10, [(4, .int (v4 + 1)), (3, .int x8), (2, .int x5), (0, .ref 83), (1, .int v1)], [])) (S' := (am_sh, hx, w.1, w.2)) (by subst h_x8; rfl) ?_
  refine am_Rn.sub [3, 4, 2, 1, 0] rfl rfl ?_
  exact hk10 v1 x5 x8 (v4 + 1) w hp
def zM_areHung_L10 : Nat → Int32 → Int32 → Int32 → Int32 → zHM → Option (Int32)
  | 0, _, _, _, _, _ => none
  | n + 1, v1, v2, v3, v4, w => if v4 < (w.1 84 1) then ((zM_placeOf v1 v4 w).bind fun r3 => if r3 < 0 then (zM_areHung_J37 (fun v1 v2 v3 v4 w => zM_areHung_L10 n v1 v2 v3 v4 w) v1 v3 v4 v2 1 w) else (zM_areHung_J37 (fun v1 v2 v3 v4 w => zM_areHung_L10 n v1 v2 v3 v4 w) v1 v3 v4 v2 0 w)) else (if v3 < (v2 - (w.1 84 2)) then (some 0) else (some 1))
set_option maxRecDepth 20000 in
theorem ezM_areHung_L10 {d : Nat} (hd : 1 ≤ d) (R : Int32) : ∀ (n : Nat) (v1 : Int32) (v2 : Int32) (v3 : Int32) (v4 : Int32) (w : zHM), zM_areHung_L10 n v1 v2 v3 v4 w = some R → am_Rn 83 Xs am_P d 223 (10, [(0, .ref 83), (1, .int v1), (2, .int v2), (3, .int v3), (4, .int v4)], []) (am_sh, hx, w.1, w.2) (some (.int R), (am_sh, hx, w.1, w.2))
  | 0, _, _, _, _, _, hp => by cases hp
  | n + 1, v1, v2, v3, v4, w, hp => by
    obtain ⟨d, rfl⟩ : ∃ k, d = k + 1 := ⟨d - 1, by omega⟩
    unfold zM_areHung_L10 at hp
    refine am_Rn.run am_h223 5 (F' := (18, [(0, .ref 83), (1, .int v1), (2, .int v2), (3, .int v3), (4, .int v4)], [.int (w.1 84 1), .int v4])) (S' := (am_sh, hx, w.1, w.2)) rfl ?_
    refine am_Rn.ite am_h223 (c := v4 < (w.1 84 1)) (t := 21) (f := 58) (lv := [(0, .ref 83), (1, .int v1), (2, .int v2), (3, .int v3), (4, .int v4)]) (st := []) (S' := (am_sh, hx, w.1, w.2)) rfl hp (fun hc2 hp => ?_) (fun hc2 hp => ?_)
    · refine am_Rn.run am_h223 4 (F' := (26, [(0, .ref 83), (1, .int v1), (2, .int v2), (3, .int v3), (4, .int v4)], [.int v4, .int v1, .ref 83, .int v2])) (S' := (am_sh, hx, w.1, w.2)) rfl ?_
      obtain ⟨r3, h_r3, hp⟩ := am_bind hp
      refine am_Rn.call am_h223 (mj := 159) (As := [.ref 83, .int v1, .int v4]) (F' := (29, [(0, .ref 83), (1, .int v1), (2, .int v2), (3, .int v3), (4, .int v4)], [.int v2])) (M' := am_m159) (r := some (.int r3)) (S1 := (am_sh, hx, w.1, w.2)) rfl am_h159 rfl (ezM_placeOf (by omega) v1 v4 w _ h_r3) ?_
      refine am_Rn.ite am_h223 (c := r3 < 0) (t := 32) (f := 36) (lv := [(0, .ref 83), (1, .int v1), (2, .int v2), (3, .int v3), (4, .int v4)]) (st := [.int v2]) (S' := (am_sh, hx, w.1, w.2)) rfl hp (fun hc4 hp => ?_) (fun hc4 hp => ?_)
      · refine am_Rn.run am_h223 2 (F' := (37, [(0, .ref 83), (1, .int v1), (2, .int v2), (3, .int v3), (4, .int v4)], [.int 1, .int v2])) (S' := (am_sh, hx, w.1, w.2)) rfl ?_
        refine am_Rn.sub [0, 1, 3, 4] rfl rfl ?_
        exact ezM_areHung_J37 hd R (fun v1 v2 v3 v4 w => zM_areHung_L10 n v1 v2 v3 v4 w) (fun v1 v2 v3 v4 w hp => ezM_areHung_L10 hd R n v1 v2 v3 v4 w hp) v1 v3 v4 v2 1 w hp
      · refine am_Rn.run am_h223 1 (F' := (37, [(0, .ref 83), (1, .int v1), (2, .int v2), (3, .int v3), (4, .int v4)], [.int 0, .int v2])) (S' := (am_sh, hx, w.1, w.2)) rfl ?_
        refine am_Rn.sub [0, 1, 3, 4] rfl rfl ?_
        exact ezM_areHung_J37 hd R (fun v1 v2 v3 v4 w => zM_areHung_L10 n v1 v2 v3 v4 w) (fun v1 v2 v3 v4 w hp => ezM_areHung_L10 hd R n v1 v2 v3 v4 w hp) v1 v3 v4 v2 0 w hp
    · refine am_Rn.run am_h223 7 (F' := (67, [(0, .ref 83), (1, .int v1), (2, .int v2), (3, .int v3), (4, .int v4)], [.int v3, .int (v2 - (w.1 84 2))])) (S' := (am_sh, hx, w.1, w.2)) rfl ?_
      refine am_Rn.ite am_h223 (c := v3 < (v2 - (w.1 84 2))) (t := 74) (f := 70) (lv := [(0, .ref 83), (1, .int v1), (2, .int v2), (3, .int v3), (4, .int v4)]) (st := []) (S' := (am_sh, hx, w.1, w.2)) rfl hp (fun hc9 hp => ?_) (fun hc9 hp => ?_)
      · refine am_Rn.run am_h223 1 (F' := (75, [(0, .ref 83), (1, .int v1), (2, .int v2), (3, .int v3), (4, .int v4)], [.int 0])) (S' := (am_sh, hx, w.1, w.2)) rfl ?_
        cases hp
        exact am_Rn.ret am_h223 rfl
      · refine am_Rn.run am_h223 2 (F' := (75, [(0, .ref 83), (1, .int v1), (2, .int v2), (3, .int v3), (4, .int v4)], [.int 1])) (S' := (am_sh, hx, w.1, w.2)) rfl ?_
        cases hp
        exact am_Rn.ret am_h223 rfl
def zM_areHung (v1 : Int32) (w : zHM) : Option (Int32) := am_b (zM_hands w) fun r1 => zM_areHung_L10 am_N v1 0 r1 0 w
set_option maxRecDepth 20000 in
theorem ezM_areHung {d : Nat} (hd : 1 ≤ d) (v1 : Int32) (w : zHM) (R : Int32) (hp : zM_areHung v1 w = some R) : am_Ev 83 Xs am_P d 223 [.ref 83, .int v1] (am_sh, hx, w.1, w.2) (some (.int R), (am_sh, hx, w.1, w.2)) := by
  obtain ⟨d, rfl⟩ : ∃ k, d = k + 1 := ⟨d - 1, by omega⟩
  unfold zM_areHung at hp
  show am_Rn 83 Xs am_P _ 223 (0, [(0, .ref 83), (1, .int v1)], []) _ _
  refine am_Rn.run am_h223 3 (F' := (3, [(2, .int 0), (0, .ref 83), (1, .int v1)], [.ref 83])) (S' := (am_sh, hx, w.1, w.2)) rfl ?_
  obtain ⟨r1, h_r1, hp⟩ := am_b_e hp
  refine am_Rn.call am_h223 (mj := 156) (As := [.ref 83]) (F' := (6, [(2, .int 0), (0, .ref 83), (1, .int v1)], [])) (M' := am_m156) (r := some (.int r1)) (S1 := (am_sh, hx, w.1, w.2)) rfl am_h156 rfl (by subst h_r1; exact (ezM_hands (by omega) w)) ?_
  refine am_Rn.run am_h223 3 (F' := (10, [(4, .int 0), (3, .int r1), (2, .int 0), (0, .ref 83), (1, .int v1)], [])) (S' := (am_sh, hx, w.1, w.2)) rfl ?_
  refine am_Rn.sub [3, 4, 2, 1, 0] rfl rfl ?_
  exact ezM_areHung_L10 hd R am_N v1 0 r1 0 w hp
/-- SixHandsModel.isSwapped(II)Z [83] -/
def zM_isSwapped (v1 : Int32) (v2 : Int32) (w : zHM) : Option (Int32) := if 0 < v1 then ((zM_placeOf v1 v2 w).bind fun r2 => if r2 < 0 then (some 0) else ((zM_placeOf (v1 - 1) v2 w).bind fun r4 => if r4 < 0 then (some 0) else ((zM_heldBy v1 v2 w).bind fun r6 => (zM_heldBy (v1 - 1) v2 w).bind fun r7 => if r6 = r7 then (some 0) else (some 1)))) else (some 0)
set_option maxRecDepth 20000 in
theorem ezM_isSwapped {d : Nat} (hd : 1 ≤ d) (v1 : Int32) (v2 : Int32) (w : zHM) (R : Int32) (hp : zM_isSwapped v1 v2 w = some R) : am_Ev 83 Xs am_P d 224 [.ref 83, .int v1, .int v2] (am_sh, hx, w.1, w.2) (some (.int R), (am_sh, hx, w.1, w.2)) := by
  obtain ⟨d, rfl⟩ : ∃ k, d = k + 1 := ⟨d - 1, by omega⟩
  unfold zM_isSwapped at hp
  show am_Rn 83 Xs am_P _ 224 (0, [(0, .ref 83), (1, .int v1), (2, .int v2)], []) _ _
  refine am_Rn.run am_h224 1 (F' := (1, [(0, .ref 83), (1, .int v1), (2, .int v2)], [.int v1])) (S' := (am_sh, hx, w.1, w.2)) rfl ?_
  refine am_Rn.ite am_h224 (c := 0 < v1) (t := 4) (f := 45) (lv := [(0, .ref 83), (1, .int v1), (2, .int v2)]) (st := []) (S' := (am_sh, hx, w.1, w.2)) rfl hp (fun hc1 hp => ?_) (fun hc1 hp => ?_)
  · refine am_Rn.run am_h224 3 (F' := (7, [(0, .ref 83), (1, .int v1), (2, .int v2)], [.int v2, .int v1, .ref 83])) (S' := (am_sh, hx, w.1, w.2)) rfl ?_
    obtain ⟨r2, h_r2, hp⟩ := am_bind hp
    refine am_Rn.call am_h224 (mj := 159) (As := [.ref 83, .int v1, .int v2]) (F' := (10, [(0, .ref 83), (1, .int v1), (2, .int v2)], [])) (M' := am_m159) (r := some (.int r2)) (S1 := (am_sh, hx, w.1, w.2)) rfl am_h159 rfl (ezM_placeOf (by omega) v1 v2 w _ h_r2) ?_
    refine am_Rn.ite am_h224 (c := r2 < 0) (t := 45) (f := 13) (lv := [(0, .ref 83), (1, .int v1), (2, .int v2)]) (st := []) (S' := (am_sh, hx, w.1, w.2)) rfl hp (fun hc3 hp => ?_) (fun hc3 hp => ?_)
    · refine am_Rn.run am_h224 1 (F' := (46, [(0, .ref 83), (1, .int v1), (2, .int v2)], [.int 0])) (S' := (am_sh, hx, w.1, w.2)) rfl ?_
      cases hp
      exact am_Rn.ret am_h224 rfl
    · refine am_Rn.run am_h224 5 (F' := (18, [(0, .ref 83), (1, .int v1), (2, .int v2)], [.int v2, .int (v1 - 1), .ref 83])) (S' := (am_sh, hx, w.1, w.2)) rfl ?_
      obtain ⟨r4, h_r4, hp⟩ := am_bind hp
      refine am_Rn.call am_h224 (mj := 159) (As := [.ref 83, .int (v1 - 1), .int v2]) (F' := (21, [(0, .ref 83), (1, .int v1), (2, .int v2)], [])) (M' := am_m159) (r := some (.int r4)) (S1 := (am_sh, hx, w.1, w.2)) rfl am_h159 rfl (ezM_placeOf (by omega) (v1 - 1) v2 w _ h_r4) ?_
      refine am_Rn.ite am_h224 (c := r4 < 0) (t := 45) (f := 24) (lv := [(0, .ref 83), (1, .int v1), (2, .int v2)]) (st := []) (S' := (am_sh, hx, w.1, w.2)) rfl hp (fun hc5 hp => ?_) (fun hc5 hp => ?_)
      · refine am_Rn.run am_h224 1 (F' := (46, [(0, .ref 83), (1, .int v1), (2, .int v2)], [.int 0])) (S' := (am_sh, hx, w.1, w.2)) rfl ?_
        cases hp
        exact am_Rn.ret am_h224 rfl
      · refine am_Rn.run am_h224 3 (F' := (27, [(0, .ref 83), (1, .int v1), (2, .int v2)], [.int v2, .int v1, .ref 83])) (S' := (am_sh, hx, w.1, w.2)) rfl ?_
        obtain ⟨r6, h_r6, hp⟩ := am_bind hp
        refine am_Rn.call am_h224 (mj := 160) (As := [.ref 83, .int v1, .int v2]) (F' := (30, [(0, .ref 83), (1, .int v1), (2, .int v2)], [])) (M' := am_m160) (r := some (.int r6)) (S1 := (am_sh, hx, w.1, w.2)) rfl am_h160 rfl (ezM_heldBy (by omega) v1 v2 w _ h_r6) ?_
        refine am_Rn.run am_h224 5 (F' := (35, [(0, .ref 83), (1, .int v1), (2, .int v2)], [.int v2, .int (v1 - 1), .ref 83, .int r6])) (S' := (am_sh, hx, w.1, w.2)) rfl ?_
        obtain ⟨r7, h_r7, hp⟩ := am_bind hp
        refine am_Rn.call am_h224 (mj := 160) (As := [.ref 83, .int (v1 - 1), .int v2]) (F' := (38, [(0, .ref 83), (1, .int v1), (2, .int v2)], [.int r6])) (M' := am_m160) (r := some (.int r7)) (S1 := (am_sh, hx, w.1, w.2)) rfl am_h160 rfl (ezM_heldBy (by omega) (v1 - 1) v2 w _ h_r7) ?_
        refine am_Rn.ite am_h224 (c := r6 = r7) (t := 45) (f := 41) (lv := [(0, .ref 83), (1, .int v1), (2, .int v2)]) (st := []) (S' := (am_sh, hx, w.1, w.2)) rfl hp (fun hc8 hp => ?_) (fun hc8 hp => ?_)
        · refine am_Rn.run am_h224 1 (F' := (46, [(0, .ref 83), (1, .int v1), (2, .int v2)], [.int 0])) (S' := (am_sh, hx, w.1, w.2)) rfl ?_
          cases hp
          exact am_Rn.ret am_h224 rfl
        · refine am_Rn.run am_h224 2 (F' := (46, [(0, .ref 83), (1, .int v1), (2, .int v2)], [.int 1])) (S' := (am_sh, hx, w.1, w.2)) rfl ?_
          cases hp
          exact am_Rn.ret am_h224 rfl
  · refine am_Rn.run am_h224 1 (F' := (46, [(0, .ref 83), (1, .int v1), (2, .int v2)], [.int 0])) (S' := (am_sh, hx, w.1, w.2)) rfl ?_
    cases hp
    exact am_Rn.ret am_h224 rfl
/-- SixHandsModel.mayPass(IIII)Z [83] -/
def zM_mayPass (v1 : Int32) (v2 : Int32) (v3 : Int32) (v4 : Int32) (w : zHM) : Option (Int32 × zHM) := (zM_name v1 v2 w).bind fun r1 => (zM_lowest v3).bind fun r2 => am_b ((va_up r1.1 89 (upd (r1.1 89) 6 (r2 / 2)), r1.2)) fun w3 => (zM_lowest v4).bind fun r4 => am_b ((va_up w3.1 89 (upd (w3.1 89) 7 (r4 / 2)), w3.2)) fun w5 => (zM_isSo 1 w5).bind fun r6 => some ((r6.1 &&& 1, r6.2))
set_option maxRecDepth 20000 in
theorem ezM_mayPass {d : Nat} (hd : 4 ≤ d) (v1 : Int32) (v2 : Int32) (v3 : Int32) (v4 : Int32) (w : zHM) (R : Int32 × zHM) (hp : zM_mayPass v1 v2 v3 v4 w = some R) : am_Ev 83 Xs am_P d 216 [.ref 83, .int v1, .int v2, .int v3, .int v4] (am_sh, hx, w.1, w.2) (some (.int R.1), (am_sh, hx, R.2.1, R.2.2)) := by
  obtain ⟨d, rfl⟩ : ∃ k, d = k + 1 := ⟨d - 1, by omega⟩
  unfold zM_mayPass at hp
  show am_Rn 83 Xs am_P _ 216 (0, [(0, .ref 83), (1, .int v1), (2, .int v2), (3, .int v3), (4, .int v4)], []) _ _
  refine am_Rn.run am_h216 3 (F' := (3, [(0, .ref 83), (1, .int v1), (2, .int v2), (3, .int v3), (4, .int v4)], [.int v2, .int v1, .ref 83])) (S' := (am_sh, hx, w.1, w.2)) rfl ?_
  obtain ⟨r1, h_r1, hp⟩ := am_bind hp
  refine am_Rn.call am_h216 (mj := 213) (As := [.ref 83, .int v1, .int v2]) (F' := (6, [(0, .ref 83), (1, .int v1), (2, .int v2), (3, .int v3), (4, .int v4)], [])) (M' := am_m213) (r := none) (S1 := (am_sh, hx, r1.1, r1.2)) rfl am_h213 rfl (ezM_name (by omega) v1 v2 w _ h_r1) ?_
  refine am_Rn.run am_h216 4 (F' := (13, [(0, .ref 83), (1, .int v1), (2, .int v2), (3, .int v3), (4, .int v4)], [.int v3, .int 6, .ref 89])) (S' := (am_sh, hx, r1.1, r1.2)) rfl ?_
  obtain ⟨r2, h_r2, hp⟩ := am_bind hp
  refine am_Rn.call am_h216 (mj := 214) (As := [.int v3]) (F' := (16, [(0, .ref 83), (1, .int v1), (2, .int v2), (3, .int v3), (4, .int v4)], [.int 6, .ref 89])) (M' := am_m214) (r := some (.int r2)) (S1 := (am_sh, hx, r1.1, r1.2)) rfl am_h214 rfl (ezM_lowest (by omega) v3 _ h_r2) ?_
  obtain ⟨w3, h_w3, hp⟩ := am_b_e hp
  refine am_Rn.run am_h216 7 (F' := (27, [(0, .ref 83), (1, .int v1), (2, .int v2), (3, .int v3), (4, .int v4)], [.int v4, .int 7, .ref 89])) (S' := (am_sh, hx, w3.1, w3.2)) (by subst h_w3; rfl) ?_
  obtain ⟨r4, h_r4, hp⟩ := am_bind hp
  refine am_Rn.call am_h216 (mj := 214) (As := [.int v4]) (F' := (30, [(0, .ref 83), (1, .int v1), (2, .int v2), (3, .int v3), (4, .int v4)], [.int 7, .ref 89])) (M' := am_m214) (r := some (.int r4)) (S1 := (am_sh, hx, w3.1, w3.2)) rfl am_h214 rfl (ezM_lowest (by omega) v4 _ h_r4) ?_
  obtain ⟨w5, h_w5, hp⟩ := am_b_e hp
  refine am_Rn.run am_h216 5 (F' := (35, [(0, .ref 83), (1, .int v1), (2, .int v2), (3, .int v3), (4, .int v4)], [.int 1, .ref 83])) (S' := (am_sh, hx, w5.1, w5.2)) (by subst h_w5; rfl) ?_
  obtain ⟨r6, h_r6, hp⟩ := am_bind hp
  refine am_Rn.call am_h216 (mj := 212) (As := [.ref 83, .int 1]) (F' := (38, [(0, .ref 83), (1, .int v1), (2, .int v2), (3, .int v3), (4, .int v4)], [])) (M' := am_m212) (r := some (.int r6.1)) (S1 := (am_sh, hx, r6.2.1, r6.2.2)) rfl am_h212 rfl (ezM_isSo (by omega) 1 w5 _ h_r6) ?_
  cases hp
  exact am_Rn.ret am_h216 rfl
/-- SixHandsModel.longFor(II)I [83] -/
def zM_longFor_L16 (k5 : Int32 → Int32 → Int32 → zHM → Option (Int32)) : Nat → Int32 → Int32 → Int32 → Int32 → Int32 → zHM → Option (Int32)
  | 0, _, _, _, _, _, _ => none
  | n + 1, v2, v3, v4, v5, v6, w => if v6 < (w.1 84 1) then (if v5 = 0 then ((zM_heldBy v4 v6 w).bind fun r4 => if ((r4 >>> (v2 &&& 31)) &&& 1) = 1 then (zM_longFor_L16 k5 n v2 v3 v4 1 (v6 + 1) w) else (zM_longFor_L16 k5 n v2 v3 v4 0 (v6 + 1) w)) else (zM_longFor_L16 k5 n v2 v3 v4 1 (v6 + 1) w)) else (if v5 = 0 then (some v3) else (am_b (v4 + (-1)) fun x7 => k5 v2 (v3 + 1) x7 w))
set_option maxRecDepth 20000 in
theorem ezM_longFor_L16 {d : Nat} (hd : 1 ≤ d) (R : Int32) (k5 : Int32 → Int32 → Int32 → zHM → Option (Int32)) (hk5 : ∀ (v2 : Int32) (v3 : Int32) (v4 : Int32) (w : zHM), k5 v2 v3 v4 w = some R → am_Rn 83 Xs am_P d 225 (5, [(0, .ref 83), (2, .int v2), (3, .int v3), (4, .int v4)], []) (am_sh, hx, w.1, w.2) (some (.int R), (am_sh, hx, w.1, w.2))) : ∀ (n : Nat) (v2 : Int32) (v3 : Int32) (v4 : Int32) (v5 : Int32) (v6 : Int32) (w : zHM), zM_longFor_L16 k5 n v2 v3 v4 v5 v6 w = some R → am_Rn 83 Xs am_P d 225 (16, [(0, .ref 83), (2, .int v2), (3, .int v3), (4, .int v4), (5, .int v5), (6, .int v6)], []) (am_sh, hx, w.1, w.2) (some (.int R), (am_sh, hx, w.1, w.2))
  | 0, _, _, _, _, _, _, hp => by cases hp
  | n + 1, v2, v3, v4, v5, v6, w, hp => by
    obtain ⟨d, rfl⟩ : ∃ k, d = k + 1 := ⟨d - 1, by omega⟩
    unfold zM_longFor_L16 at hp
    refine am_Rn.run am_h225 5 (F' := (24, [(0, .ref 83), (2, .int v2), (3, .int v3), (4, .int v4), (5, .int v5), (6, .int v6)], [.int (w.1 84 1), .int v6])) (S' := (am_sh, hx, w.1, w.2)) rfl ?_
    refine am_Rn.ite am_h225 (c := v6 < (w.1 84 1)) (t := 27) (f := 61) (lv := [(0, .ref 83), (2, .int v2), (3, .int v3), (4, .int v4), (5, .int v5), (6, .int v6)]) (st := []) (S' := (am_sh, hx, w.1, w.2)) rfl hp (fun hc2 hp => ?_) (fun hc2 hp => ?_)
    · refine am_Rn.run am_h225 1 (F' := (29, [(0, .ref 83), (2, .int v2), (3, .int v3), (4, .int v4), (5, .int v5), (6, .int v6)], [.int v5])) (S' := (am_sh, hx, w.1, w.2)) rfl ?_
      refine am_Rn.ite am_h225 (c := v5 = 0) (t := 32) (f := 48) (lv := [(0, .ref 83), (2, .int v2), (3, .int v3), (4, .int v4), (5, .int v5), (6, .int v6)]) (st := []) (S' := (am_sh, hx, w.1, w.2)) rfl hp (fun hc3 hp => ?_) (fun hc3 hp => ?_)
      · refine am_Rn.run am_h225 3 (F' := (37, [(0, .ref 83), (2, .int v2), (3, .int v3), (4, .int v4), (5, .int v5), (6, .int v6)], [.int v6, .int v4, .ref 83])) (S' := (am_sh, hx, w.1, w.2)) rfl ?_
        obtain ⟨r4, h_r4, hp⟩ := am_bind hp
        refine am_Rn.call am_h225 (mj := 160) (As := [.ref 83, .int v4, .int v6]) (F' := (40, [(0, .ref 83), (2, .int v2), (3, .int v3), (4, .int v4), (5, .int v5), (6, .int v6)], [])) (M' := am_m160) (r := some (.int r4)) (S1 := (am_sh, hx, w.1, w.2)) rfl am_h160 rfl (ezM_heldBy (by omega) v4 v6 w _ h_r4) ?_
        refine am_Rn.run am_h225 5 (F' := (45, [(0, .ref 83), (2, .int v2), (3, .int v3), (4, .int v4), (5, .int v5), (6, .int v6)], [.int 1, .int ((r4 >>> (v2 &&& 31)) &&& 1)])) (S' := (am_sh, hx, w.1, w.2)) rfl ?_
        refine am_Rn.ite am_h225 (c := ((r4 >>> (v2 &&& 31)) &&& 1) = 1) (t := 48) (f := 52) (lv := [(0, .ref 83), (2, .int v2), (3, .int v3), (4, .int v4), (5, .int v5), (6, .int v6)]) (st := []) (S' := (am_sh, hx, w.1, w.2)) rfl hp (fun hc5 hp => ?_) (fun hc5 hp => ?_)
        · refine am_Rn.run am_h225 5 (F' := (16, [(6, .int (v6 + 1)), (5, .int 1), (0, .ref 83), (2, .int v2), (3, .int v3), (4, .int v4)], [])) (S' := (am_sh, hx, w.1, w.2)) rfl ?_
          refine am_Rn.sub [2, 3, 4, 5, 1, 0] rfl rfl ?_
          exact ezM_longFor_L16 hd R k5 hk5 n v2 v3 v4 1 (v6 + 1) w hp
        · refine am_Rn.run am_h225 4 (F' := (16, [(6, .int (v6 + 1)), (5, .int 0), (0, .ref 83), (2, .int v2), (3, .int v3), (4, .int v4)], [])) (S' := (am_sh, hx, w.1, w.2)) rfl ?_
          refine am_Rn.sub [2, 3, 4, 5, 1, 0] rfl rfl ?_
          exact ezM_longFor_L16 hd R k5 hk5 n v2 v3 v4 0 (v6 + 1) w hp
      · refine am_Rn.run am_h225 5 (F' := (16, [(6, .int (v6 + 1)), (5, .int 1), (0, .ref 83), (2, .int v2), (3, .int v3), (4, .int v4)], [])) (S' := (am_sh, hx, w.1, w.2)) rfl ?_
        refine am_Rn.sub [2, 3, 4, 5, 1, 0] rfl rfl ?_
        exact ezM_longFor_L16 hd R k5 hk5 n v2 v3 v4 1 (v6 + 1) w hp
    · refine am_Rn.run am_h225 1 (F' := (63, [(0, .ref 83), (2, .int v2), (3, .int v3), (4, .int v4), (5, .int v5), (6, .int v6)], [.int v5])) (S' := (am_sh, hx, w.1, w.2)) rfl ?_
      refine am_Rn.ite am_h225 (c := v5 = 0) (t := 66) (f := 68) (lv := [(0, .ref 83), (2, .int v2), (3, .int v3), (4, .int v4), (5, .int v5), (6, .int v6)]) (st := []) (S' := (am_sh, hx, w.1, w.2)) rfl hp (fun hc6 hp => ?_) (fun hc6 hp => ?_)
      · refine am_Rn.run am_h225 1 (F' := (67, [(0, .ref 83), (2, .int v2), (3, .int v3), (4, .int v4), (5, .int v5), (6, .int v6)], [.int v3])) (S' := (am_sh, hx, w.1, w.2)) rfl ?_
        cases hp
        exact am_Rn.ret am_h225 rfl
      · obtain ⟨x7, h_x7, hp⟩ := am_b_e hp
        refine am_Rn.run am_h225 3 (F' := (5, [(4, .int x7), (3, .int (v3 + 1)), (0, .ref 83), (2, .int v2), (5, .int v5), (6, .int v6)], [])) (S' := (am_sh, hx, w.1, w.2)) (by subst h_x7; rfl) ?_
        refine am_Rn.sub [2, 3, 1, 0] rfl rfl ?_
        exact hk5 v2 (v3 + 1) x7 w hp
def zM_longFor_L5 : Nat → Int32 → Int32 → Int32 → zHM → Option (Int32)
  | 0, _, _, _, _ => none
  | n + 1, v2, v3, v4, w => if v4 < 0 then (some v3) else (zM_longFor_L16 (fun v2 v3 v4 w => zM_longFor_L5 n v2 v3 v4 w) am_N v2 v3 v4 0 0 w)
set_option maxRecDepth 20000 in
theorem ezM_longFor_L5 {d : Nat} (hd : 1 ≤ d) (R : Int32) : ∀ (n : Nat) (v2 : Int32) (v3 : Int32) (v4 : Int32) (w : zHM), zM_longFor_L5 n v2 v3 v4 w = some R → am_Rn 83 Xs am_P d 225 (5, [(0, .ref 83), (2, .int v2), (3, .int v3), (4, .int v4)], []) (am_sh, hx, w.1, w.2) (some (.int R), (am_sh, hx, w.1, w.2))
  | 0, _, _, _, _, hp => by cases hp
  | n + 1, v2, v3, v4, w, hp => by
    obtain ⟨d, rfl⟩ : ∃ k, d = k + 1 := ⟨d - 1, by omega⟩
    unfold zM_longFor_L5 at hp
    refine am_Rn.run am_h225 1 (F' := (7, [(0, .ref 83), (2, .int v2), (3, .int v3), (4, .int v4)], [.int v4])) (S' := (am_sh, hx, w.1, w.2)) rfl ?_
    refine am_Rn.ite am_h225 (c := v4 < 0) (t := 77) (f := 10) (lv := [(0, .ref 83), (2, .int v2), (3, .int v3), (4, .int v4)]) (st := []) (S' := (am_sh, hx, w.1, w.2)) rfl hp (fun hc1 hp => ?_) (fun hc1 hp => ?_)
    · refine am_Rn.run am_h225 1 (F' := (78, [(0, .ref 83), (2, .int v2), (3, .int v3), (4, .int v4)], [.int v3])) (S' := (am_sh, hx, w.1, w.2)) rfl ?_
      cases hp
      exact am_Rn.ret am_h225 rfl
    · refine am_Rn.run am_h225 4 (F' := (16, [(6, .int 0), (5, .int 0), (0, .ref 83), (2, .int v2), (3, .int v3), (4, .int v4)], [])) (S' := (am_sh, hx, w.1, w.2)) rfl ?_
      refine am_Rn.sub [2, 3, 4, 5, 1, 0] rfl rfl ?_
      exact ezM_longFor_L16 hd R (fun v2 v3 v4 w => zM_longFor_L5 n v2 v3 v4 w) (fun v2 v3 v4 w hp => ezM_longFor_L5 hd R n v2 v3 v4 w hp) am_N v2 v3 v4 0 0 w hp
def zM_longFor (v1 : Int32) (v2 : Int32) (w : zHM) : Option (Int32) := zM_longFor_L5 am_N v2 0 v1 w
set_option maxRecDepth 20000 in
theorem ezM_longFor {d : Nat} (hd : 1 ≤ d) (v1 : Int32) (v2 : Int32) (w : zHM) (R : Int32) (hp : zM_longFor v1 v2 w = some R) : am_Ev 83 Xs am_P d 225 [.ref 83, .int v1, .int v2] (am_sh, hx, w.1, w.2) (some (.int R), (am_sh, hx, w.1, w.2)) := by
  obtain ⟨d, rfl⟩ : ∃ k, d = k + 1 := ⟨d - 1, by omega⟩
  unfold zM_longFor at hp
  show am_Rn 83 Xs am_P _ 225 (0, [(0, .ref 83), (1, .int v1), (2, .int v2)], []) _ _
  refine am_Rn.run am_h225 4 (F' := (5, [(4, .int v1), (3, .int 0), (0, .ref 83), (1, .int v1), (2, .int v2)], [])) (S' := (am_sh, hx, w.1, w.2)) rfl ?_
  refine am_Rn.sub [2, 4, 1, 0] rfl rfl ?_
  exact ezM_longFor_L5 hd R am_N v2 0 v1 w hp
/-- SixHandsModel.whyNot(I)I [83] -/
def zM_whyNot_L218 : Nat → Int32 → Int32 → zHM → Option (Int32 × zHM)
  | 0, _, _, _ => none
  | n + 1, v1, v2, w => am_b (zM_hands w) fun r32 => if v2 < r32 then (if 0 < (w.1 84 3) then ((zM_longFor v1 v2 w).bind fun r35 => if (w.1 84 3) < r35 then (some ((8, w))) else (zM_whyNot_L218 n v1 (v2 + 1) w)) else (some ((0, w)))) else (some ((0, w)))
set_option maxRecDepth 20000 in
theorem ezM_whyNot_L218 {d : Nat} (hd : 5 ≤ d) (R : Int32 × zHM) : ∀ (n : Nat) (v1 : Int32) (v2 : Int32) (w : zHM), zM_whyNot_L218 n v1 v2 w = some R → am_Rn 83 Xs am_P d 226 (218, [(0, .ref 83), (1, .int v1), (2, .int v2)], []) (am_sh, hx, w.1, w.2) (some (.int R.1), (am_sh, hx, R.2.1, R.2.2))
  | 0, _, _, _, hp => by cases hp
  | n + 1, v1, v2, w, hp => by
    obtain ⟨d, rfl⟩ : ∃ k, d = k + 1 := ⟨d - 1, by omega⟩
    unfold zM_whyNot_L218 at hp
    refine am_Rn.run am_h226 2 (F' := (220, [(0, .ref 83), (1, .int v1), (2, .int v2)], [.ref 83, .int v2])) (S' := (am_sh, hx, w.1, w.2)) rfl ?_
    obtain ⟨r32, h_r32, hp⟩ := am_b_e hp
    refine am_Rn.call am_h226 (mj := 156) (As := [.ref 83]) (F' := (223, [(0, .ref 83), (1, .int v1), (2, .int v2)], [.int v2])) (M' := am_m156) (r := some (.int r32)) (S1 := (am_sh, hx, w.1, w.2)) rfl am_h156 rfl (by subst h_r32; exact (ezM_hands (by omega) w)) ?_
    refine am_Rn.ite am_h226 (c := v2 < r32) (t := 226) (f := 259) (lv := [(0, .ref 83), (1, .int v1), (2, .int v2)]) (st := []) (S' := (am_sh, hx, w.1, w.2)) rfl hp (fun hc33 hp => ?_) (fun hc33 hp => ?_)
    · refine am_Rn.run am_h226 4 (F' := (232, [(0, .ref 83), (1, .int v1), (2, .int v2)], [.int (w.1 84 3)])) (S' := (am_sh, hx, w.1, w.2)) rfl ?_
      refine am_Rn.ite am_h226 (c := 0 < (w.1 84 3)) (t := 235) (f := 259) (lv := [(0, .ref 83), (1, .int v1), (2, .int v2)]) (st := []) (S' := (am_sh, hx, w.1, w.2)) rfl hp (fun hc34 hp => ?_) (fun hc34 hp => ?_)
      · refine am_Rn.run am_h226 3 (F' := (238, [(0, .ref 83), (1, .int v1), (2, .int v2)], [.int v2, .int v1, .ref 83])) (S' := (am_sh, hx, w.1, w.2)) rfl ?_
        obtain ⟨r35, h_r35, hp⟩ := am_bind hp
        refine am_Rn.call am_h226 (mj := 225) (As := [.ref 83, .int v1, .int v2]) (F' := (241, [(0, .ref 83), (1, .int v1), (2, .int v2)], [])) (M' := am_m225) (r := some (.int r35)) (S1 := (am_sh, hx, w.1, w.2)) rfl am_h225 rfl (ezM_longFor (by omega) v1 v2 w _ h_r35) ?_
        refine am_Rn.run am_h226 4 (F' := (247, [(0, .ref 83), (1, .int v1), (2, .int v2)], [.int (w.1 84 3), .int r35])) (S' := (am_sh, hx, w.1, w.2)) rfl ?_
        refine am_Rn.ite am_h226 (c := (w.1 84 3) < r35) (t := 250) (f := 253) (lv := [(0, .ref 83), (1, .int v1), (2, .int v2)]) (st := []) (S' := (am_sh, hx, w.1, w.2)) rfl hp (fun hc36 hp => ?_) (fun hc36 hp => ?_)
        · refine am_Rn.run am_h226 1 (F' := (252, [(0, .ref 83), (1, .int v1), (2, .int v2)], [.int 8])) (S' := (am_sh, hx, w.1, w.2)) rfl ?_
          cases hp
          exact am_Rn.ret am_h226 rfl
        · refine am_Rn.run am_h226 2 (F' := (218, [(2, .int (v2 + 1)), (0, .ref 83), (1, .int v1)], [])) (S' := (am_sh, hx, w.1, w.2)) rfl ?_
          refine am_Rn.sub [1, 2, 0] rfl rfl ?_
          exact ezM_whyNot_L218 hd R n v1 (v2 + 1) w hp
      · refine am_Rn.run am_h226 1 (F' := (260, [(0, .ref 83), (1, .int v1), (2, .int v2)], [.int 0])) (S' := (am_sh, hx, w.1, w.2)) rfl ?_
        cases hp
        exact am_Rn.ret am_h226 rfl
    · refine am_Rn.run am_h226 1 (F' := (260, [(0, .ref 83), (1, .int v1), (2, .int v2)], [.int 0])) (S' := (am_sh, hx, w.1, w.2)) rfl ?_
      cases hp
      exact am_Rn.ret am_h226 rfl
def zM_whyNot_L154 : Nat → Int32 → Int32 → zHM → Option (Int32 × zHM)
  | 0, _, _, _ => none
  | n + 1, v1, v2, w => if v2 < (w.1 84 1) then ((zM_isSwapped v1 v2 w).bind fun r24 => if r24 = 0 then (zM_whyNot_L154 n v1 (v2 + 1) w) else ((zM_heldBy (v1 - 1) v2 w).bind fun r26 => if r26 = 0 then (some ((7, w))) else ((zM_heldBy (v1 - 1) v2 w).bind fun r28 => (zM_heldBy v1 v2 w).bind fun r29 => (zM_mayPass v1 v2 r28 r29 w).bind fun r30 => if r30.1 = 0 then (some ((7, r30.2))) else (zM_whyNot_L154 n v1 (v2 + 1) r30.2)))) else (zM_whyNot_L218 am_N v1 0 w)
set_option maxRecDepth 20000 in
theorem ezM_whyNot_L154 {d : Nat} (hd : 5 ≤ d) (R : Int32 × zHM) : ∀ (n : Nat) (v1 : Int32) (v2 : Int32) (w : zHM), zM_whyNot_L154 n v1 v2 w = some R → am_Rn 83 Xs am_P d 226 (154, [(0, .ref 83), (1, .int v1), (2, .int v2)], []) (am_sh, hx, w.1, w.2) (some (.int R.1), (am_sh, hx, R.2.1, R.2.2))
  | 0, _, _, _, hp => by cases hp
  | n + 1, v1, v2, w, hp => by
    obtain ⟨d, rfl⟩ : ∃ k, d = k + 1 := ⟨d - 1, by omega⟩
    unfold zM_whyNot_L154 at hp
    refine am_Rn.run am_h226 5 (F' := (161, [(0, .ref 83), (1, .int v1), (2, .int v2)], [.int (w.1 84 1), .int v2])) (S' := (am_sh, hx, w.1, w.2)) rfl ?_
    refine am_Rn.ite am_h226 (c := v2 < (w.1 84 1)) (t := 164) (f := 216) (lv := [(0, .ref 83), (1, .int v1), (2, .int v2)]) (st := []) (S' := (am_sh, hx, w.1, w.2)) rfl hp (fun hc23 hp => ?_) (fun hc23 hp => ?_)
    · refine am_Rn.run am_h226 3 (F' := (167, [(0, .ref 83), (1, .int v1), (2, .int v2)], [.int v2, .int v1, .ref 83])) (S' := (am_sh, hx, w.1, w.2)) rfl ?_
      obtain ⟨r24, h_r24, hp⟩ := am_bind hp
      refine am_Rn.call am_h226 (mj := 224) (As := [.ref 83, .int v1, .int v2]) (F' := (170, [(0, .ref 83), (1, .int v1), (2, .int v2)], [])) (M' := am_m224) (r := some (.int r24)) (S1 := (am_sh, hx, w.1, w.2)) rfl am_h224 rfl (ezM_isSwapped (by omega) v1 v2 w _ h_r24) ?_
      refine am_Rn.ite am_h226 (c := r24 = 0) (t := 210) (f := 173) (lv := [(0, .ref 83), (1, .int v1), (2, .int v2)]) (st := []) (S' := (am_sh, hx, w.1, w.2)) rfl hp (fun hc25 hp => ?_) (fun hc25 hp => ?_)
      · refine am_Rn.run am_h226 2 (F' := (154, [(2, .int (v2 + 1)), (0, .ref 83), (1, .int v1)], [])) (S' := (am_sh, hx, w.1, w.2)) rfl ?_
        refine am_Rn.sub [1, 2, 0] rfl rfl ?_
        exact ezM_whyNot_L154 hd R n v1 (v2 + 1) w hp
      · refine am_Rn.run am_h226 5 (F' := (178, [(0, .ref 83), (1, .int v1), (2, .int v2)], [.int v2, .int (v1 - 1), .ref 83])) (S' := (am_sh, hx, w.1, w.2)) rfl ?_
        obtain ⟨r26, h_r26, hp⟩ := am_bind hp
        refine am_Rn.call am_h226 (mj := 160) (As := [.ref 83, .int (v1 - 1), .int v2]) (F' := (181, [(0, .ref 83), (1, .int v1), (2, .int v2)], [])) (M' := am_m160) (r := some (.int r26)) (S1 := (am_sh, hx, w.1, w.2)) rfl am_h160 rfl (ezM_heldBy (by omega) (v1 - 1) v2 w _ h_r26) ?_
        refine am_Rn.ite am_h226 (c := r26 = 0) (t := 207) (f := 184) (lv := [(0, .ref 83), (1, .int v1), (2, .int v2)]) (st := []) (S' := (am_sh, hx, w.1, w.2)) rfl hp (fun hc27 hp => ?_) (fun hc27 hp => ?_)
        · refine am_Rn.run am_h226 1 (F' := (209, [(0, .ref 83), (1, .int v1), (2, .int v2)], [.int 7])) (S' := (am_sh, hx, w.1, w.2)) rfl ?_
          cases hp
          exact am_Rn.ret am_h226 rfl
        · refine am_Rn.run am_h226 8 (F' := (192, [(0, .ref 83), (1, .int v1), (2, .int v2)], [.int v2, .int (v1 - 1), .ref 83, .int v2, .int v1, .ref 83])) (S' := (am_sh, hx, w.1, w.2)) rfl ?_
          obtain ⟨r28, h_r28, hp⟩ := am_bind hp
          refine am_Rn.call am_h226 (mj := 160) (As := [.ref 83, .int (v1 - 1), .int v2]) (F' := (195, [(0, .ref 83), (1, .int v1), (2, .int v2)], [.int v2, .int v1, .ref 83])) (M' := am_m160) (r := some (.int r28)) (S1 := (am_sh, hx, w.1, w.2)) rfl am_h160 rfl (ezM_heldBy (by omega) (v1 - 1) v2 w _ h_r28) ?_
          refine am_Rn.run am_h226 3 (F' := (198, [(0, .ref 83), (1, .int v1), (2, .int v2)], [.int v2, .int v1, .ref 83, .int r28, .int v2, .int v1, .ref 83])) (S' := (am_sh, hx, w.1, w.2)) rfl ?_
          obtain ⟨r29, h_r29, hp⟩ := am_bind hp
          refine am_Rn.call am_h226 (mj := 160) (As := [.ref 83, .int v1, .int v2]) (F' := (201, [(0, .ref 83), (1, .int v1), (2, .int v2)], [.int r28, .int v2, .int v1, .ref 83])) (M' := am_m160) (r := some (.int r29)) (S1 := (am_sh, hx, w.1, w.2)) rfl am_h160 rfl (ezM_heldBy (by omega) v1 v2 w _ h_r29) ?_
          obtain ⟨r30, h_r30, hp⟩ := am_bind hp
          refine am_Rn.call am_h226 (mj := 216) (As := [.ref 83, .int v1, .int v2, .int r28, .int r29]) (F' := (204, [(0, .ref 83), (1, .int v1), (2, .int v2)], [])) (M' := am_m216) (r := some (.int r30.1)) (S1 := (am_sh, hx, r30.2.1, r30.2.2)) rfl am_h216 rfl (ezM_mayPass (by omega) v1 v2 r28 r29 w _ h_r30) ?_
          refine am_Rn.ite am_h226 (c := r30.1 = 0) (t := 207) (f := 210) (lv := [(0, .ref 83), (1, .int v1), (2, .int v2)]) (st := []) (S' := (am_sh, hx, r30.2.1, r30.2.2)) rfl hp (fun hc31 hp => ?_) (fun hc31 hp => ?_)
          · refine am_Rn.run am_h226 1 (F' := (209, [(0, .ref 83), (1, .int v1), (2, .int v2)], [.int 7])) (S' := (am_sh, hx, r30.2.1, r30.2.2)) rfl ?_
            cases hp
            exact am_Rn.ret am_h226 rfl
          · refine am_Rn.run am_h226 2 (F' := (154, [(2, .int (v2 + 1)), (0, .ref 83), (1, .int v1)], [])) (S' := (am_sh, hx, r30.2.1, r30.2.2)) rfl ?_
            refine am_Rn.sub [1, 2, 0] rfl rfl ?_
            exact ezM_whyNot_L154 hd R n v1 (v2 + 1) r30.2 hp
    · refine am_Rn.run am_h226 2 (F' := (218, [(2, .int 0), (0, .ref 83), (1, .int v1)], [])) (S' := (am_sh, hx, w.1, w.2)) rfl ?_
      refine am_Rn.sub [1, 2, 0] rfl rfl ?_
      exact ezM_whyNot_L218 hd R am_N v1 0 w hp
def zM_whyNot_L99 : Nat → Int32 → Int32 → zHM → Option (Int32 × zHM)
  | 0, _, _, _ => none
  | n + 1, v1, v2, w => if v2 < (w.1 84 1) then ((zM_placeOf v1 v2 w).bind fun r16 => if r16 < 0 then (zM_whyNot_L99 n v1 (v2 + 1) w) else ((zM_heldBy v1 v2 w).bind fun r18 => (zM_may v1 v2 r18 w).bind fun r19 => if r19.1 = 0 then (some ((5, r19.2))) else (zM_whyNot_L99 n v1 (v2 + 1) r19.2))) else ((zM_areHung v1 w).bind fun r21 => if r21 = 0 then (some ((6, w))) else (zM_whyNot_L154 am_N v1 0 w))
set_option maxRecDepth 20000 in
theorem ezM_whyNot_L99 {d : Nat} (hd : 5 ≤ d) (R : Int32 × zHM) : ∀ (n : Nat) (v1 : Int32) (v2 : Int32) (w : zHM), zM_whyNot_L99 n v1 v2 w = some R → am_Rn 83 Xs am_P d 226 (99, [(0, .ref 83), (1, .int v1), (2, .int v2)], []) (am_sh, hx, w.1, w.2) (some (.int R.1), (am_sh, hx, R.2.1, R.2.2))
  | 0, _, _, _, hp => by cases hp
  | n + 1, v1, v2, w, hp => by
    obtain ⟨d, rfl⟩ : ∃ k, d = k + 1 := ⟨d - 1, by omega⟩
    unfold zM_whyNot_L99 at hp
    refine am_Rn.run am_h226 5 (F' := (106, [(0, .ref 83), (1, .int v1), (2, .int v2)], [.int (w.1 84 1), .int v2])) (S' := (am_sh, hx, w.1, w.2)) rfl ?_
    refine am_Rn.ite am_h226 (c := v2 < (w.1 84 1)) (t := 109) (f := 141) (lv := [(0, .ref 83), (1, .int v1), (2, .int v2)]) (st := []) (S' := (am_sh, hx, w.1, w.2)) rfl hp (fun hc15 hp => ?_) (fun hc15 hp => ?_)
    · refine am_Rn.run am_h226 3 (F' := (112, [(0, .ref 83), (1, .int v1), (2, .int v2)], [.int v2, .int v1, .ref 83])) (S' := (am_sh, hx, w.1, w.2)) rfl ?_
      obtain ⟨r16, h_r16, hp⟩ := am_bind hp
      refine am_Rn.call am_h226 (mj := 159) (As := [.ref 83, .int v1, .int v2]) (F' := (115, [(0, .ref 83), (1, .int v1), (2, .int v2)], [])) (M' := am_m159) (r := some (.int r16)) (S1 := (am_sh, hx, w.1, w.2)) rfl am_h159 rfl (ezM_placeOf (by omega) v1 v2 w _ h_r16) ?_
      refine am_Rn.ite am_h226 (c := r16 < 0) (t := 135) (f := 118) (lv := [(0, .ref 83), (1, .int v1), (2, .int v2)]) (st := []) (S' := (am_sh, hx, w.1, w.2)) rfl hp (fun hc17 hp => ?_) (fun hc17 hp => ?_)
      · refine am_Rn.run am_h226 2 (F' := (99, [(2, .int (v2 + 1)), (0, .ref 83), (1, .int v1)], [])) (S' := (am_sh, hx, w.1, w.2)) rfl ?_
        refine am_Rn.sub [1, 2, 0] rfl rfl ?_
        exact ezM_whyNot_L99 hd R n v1 (v2 + 1) w hp
      · refine am_Rn.run am_h226 6 (F' := (124, [(0, .ref 83), (1, .int v1), (2, .int v2)], [.int v2, .int v1, .ref 83, .int v2, .int v1, .ref 83])) (S' := (am_sh, hx, w.1, w.2)) rfl ?_
        obtain ⟨r18, h_r18, hp⟩ := am_bind hp
        refine am_Rn.call am_h226 (mj := 160) (As := [.ref 83, .int v1, .int v2]) (F' := (127, [(0, .ref 83), (1, .int v1), (2, .int v2)], [.int v2, .int v1, .ref 83])) (M' := am_m160) (r := some (.int r18)) (S1 := (am_sh, hx, w.1, w.2)) rfl am_h160 rfl (ezM_heldBy (by omega) v1 v2 w _ h_r18) ?_
        obtain ⟨r19, h_r19, hp⟩ := am_bind hp
        refine am_Rn.call am_h226 (mj := 215) (As := [.ref 83, .int v1, .int v2, .int r18]) (F' := (130, [(0, .ref 83), (1, .int v1), (2, .int v2)], [])) (M' := am_m215) (r := some (.int r19.1)) (S1 := (am_sh, hx, r19.2.1, r19.2.2)) rfl am_h215 rfl (ezM_may (by omega) v1 v2 r18 w _ h_r19) ?_
        refine am_Rn.ite am_h226 (c := r19.1 = 0) (t := 133) (f := 135) (lv := [(0, .ref 83), (1, .int v1), (2, .int v2)]) (st := []) (S' := (am_sh, hx, r19.2.1, r19.2.2)) rfl hp (fun hc20 hp => ?_) (fun hc20 hp => ?_)
        · refine am_Rn.run am_h226 1 (F' := (134, [(0, .ref 83), (1, .int v1), (2, .int v2)], [.int 5])) (S' := (am_sh, hx, r19.2.1, r19.2.2)) rfl ?_
          cases hp
          exact am_Rn.ret am_h226 rfl
        · refine am_Rn.run am_h226 2 (F' := (99, [(2, .int (v2 + 1)), (0, .ref 83), (1, .int v1)], [])) (S' := (am_sh, hx, r19.2.1, r19.2.2)) rfl ?_
          refine am_Rn.sub [1, 2, 0] rfl rfl ?_
          exact ezM_whyNot_L99 hd R n v1 (v2 + 1) r19.2 hp
    · refine am_Rn.run am_h226 2 (F' := (143, [(0, .ref 83), (1, .int v1), (2, .int v2)], [.int v1, .ref 83])) (S' := (am_sh, hx, w.1, w.2)) rfl ?_
      obtain ⟨r21, h_r21, hp⟩ := am_bind hp
      refine am_Rn.call am_h226 (mj := 223) (As := [.ref 83, .int v1]) (F' := (146, [(0, .ref 83), (1, .int v1), (2, .int v2)], [])) (M' := am_m223) (r := some (.int r21)) (S1 := (am_sh, hx, w.1, w.2)) rfl am_h223 rfl (ezM_areHung (by omega) v1 w _ h_r21) ?_
      refine am_Rn.ite am_h226 (c := r21 = 0) (t := 149) (f := 152) (lv := [(0, .ref 83), (1, .int v1), (2, .int v2)]) (st := []) (S' := (am_sh, hx, w.1, w.2)) rfl hp (fun hc22 hp => ?_) (fun hc22 hp => ?_)
      · refine am_Rn.run am_h226 1 (F' := (151, [(0, .ref 83), (1, .int v1), (2, .int v2)], [.int 6])) (S' := (am_sh, hx, w.1, w.2)) rfl ?_
        cases hp
        exact am_Rn.ret am_h226 rfl
      · refine am_Rn.run am_h226 2 (F' := (154, [(2, .int 0), (0, .ref 83), (1, .int v1)], [])) (S' := (am_sh, hx, w.1, w.2)) rfl ?_
        refine am_Rn.sub [1, 2, 0] rfl rfl ?_
        exact ezM_whyNot_L154 hd R am_N v1 0 w hp
def zM_whyNot_L41 : Nat → Int32 → Int32 → zHM → Option (Int32 × zHM)
  | 0, _, _, _ => none
  | n + 1, v1, v2, w => if v2 < (w.1 84 1) then ((zM_placeOf v1 v2 w).bind fun r7 => if r7 < 0 then (zM_whyNot_L41 n v1 (v2 + 1) w) else ((zM_placeOf v1 v2 w).bind fun r9 => (zM_heldBy v1 v2 w).bind fun r10 => (zM_isInReach r9 r10 w).bind fun r11 => if r11 = 0 then (some ((3, w))) else (zM_whyNot_L41 n v1 (v2 + 1) w))) else ((zM_crosses v1 w).bind fun r13 => if r13 = 0 then (zM_whyNot_L99 am_N v1 0 w) else (some ((4, w))))
set_option maxRecDepth 20000 in
theorem ezM_whyNot_L41 {d : Nat} (hd : 5 ≤ d) (R : Int32 × zHM) : ∀ (n : Nat) (v1 : Int32) (v2 : Int32) (w : zHM), zM_whyNot_L41 n v1 v2 w = some R → am_Rn 83 Xs am_P d 226 (41, [(0, .ref 83), (1, .int v1), (2, .int v2)], []) (am_sh, hx, w.1, w.2) (some (.int R.1), (am_sh, hx, R.2.1, R.2.2))
  | 0, _, _, _, hp => by cases hp
  | n + 1, v1, v2, w, hp => by
    obtain ⟨d, rfl⟩ : ∃ k, d = k + 1 := ⟨d - 1, by omega⟩
    unfold zM_whyNot_L41 at hp
    refine am_Rn.run am_h226 5 (F' := (48, [(0, .ref 83), (1, .int v1), (2, .int v2)], [.int (w.1 84 1), .int v2])) (S' := (am_sh, hx, w.1, w.2)) rfl ?_
    refine am_Rn.ite am_h226 (c := v2 < (w.1 84 1)) (t := 51) (f := 87) (lv := [(0, .ref 83), (1, .int v1), (2, .int v2)]) (st := []) (S' := (am_sh, hx, w.1, w.2)) rfl hp (fun hc6 hp => ?_) (fun hc6 hp => ?_)
    · refine am_Rn.run am_h226 3 (F' := (54, [(0, .ref 83), (1, .int v1), (2, .int v2)], [.int v2, .int v1, .ref 83])) (S' := (am_sh, hx, w.1, w.2)) rfl ?_
      obtain ⟨r7, h_r7, hp⟩ := am_bind hp
      refine am_Rn.call am_h226 (mj := 159) (As := [.ref 83, .int v1, .int v2]) (F' := (57, [(0, .ref 83), (1, .int v1), (2, .int v2)], [])) (M' := am_m159) (r := some (.int r7)) (S1 := (am_sh, hx, w.1, w.2)) rfl am_h159 rfl (ezM_placeOf (by omega) v1 v2 w _ h_r7) ?_
      refine am_Rn.ite am_h226 (c := r7 < 0) (t := 81) (f := 60) (lv := [(0, .ref 83), (1, .int v1), (2, .int v2)]) (st := []) (S' := (am_sh, hx, w.1, w.2)) rfl hp (fun hc8 hp => ?_) (fun hc8 hp => ?_)
      · refine am_Rn.run am_h226 2 (F' := (41, [(2, .int (v2 + 1)), (0, .ref 83), (1, .int v1)], [])) (S' := (am_sh, hx, w.1, w.2)) rfl ?_
        refine am_Rn.sub [1, 2, 0] rfl rfl ?_
        exact ezM_whyNot_L41 hd R n v1 (v2 + 1) w hp
      · refine am_Rn.run am_h226 4 (F' := (64, [(0, .ref 83), (1, .int v1), (2, .int v2)], [.int v2, .int v1, .ref 83, .ref 83])) (S' := (am_sh, hx, w.1, w.2)) rfl ?_
        obtain ⟨r9, h_r9, hp⟩ := am_bind hp
        refine am_Rn.call am_h226 (mj := 159) (As := [.ref 83, .int v1, .int v2]) (F' := (67, [(0, .ref 83), (1, .int v1), (2, .int v2)], [.ref 83])) (M' := am_m159) (r := some (.int r9)) (S1 := (am_sh, hx, w.1, w.2)) rfl am_h159 rfl (ezM_placeOf (by omega) v1 v2 w _ h_r9) ?_
        refine am_Rn.run am_h226 3 (F' := (70, [(0, .ref 83), (1, .int v1), (2, .int v2)], [.int v2, .int v1, .ref 83, .int r9, .ref 83])) (S' := (am_sh, hx, w.1, w.2)) rfl ?_
        obtain ⟨r10, h_r10, hp⟩ := am_bind hp
        refine am_Rn.call am_h226 (mj := 160) (As := [.ref 83, .int v1, .int v2]) (F' := (73, [(0, .ref 83), (1, .int v1), (2, .int v2)], [.int r9, .ref 83])) (M' := am_m160) (r := some (.int r10)) (S1 := (am_sh, hx, w.1, w.2)) rfl am_h160 rfl (ezM_heldBy (by omega) v1 v2 w _ h_r10) ?_
        obtain ⟨r11, h_r11, hp⟩ := am_bind hp
        refine am_Rn.call am_h226 (mj := 217) (As := [.ref 83, .int r9, .int r10]) (F' := (76, [(0, .ref 83), (1, .int v1), (2, .int v2)], [])) (M' := am_m217) (r := some (.int r11)) (S1 := (am_sh, hx, w.1, w.2)) rfl am_h217 rfl (ezM_isInReach (by omega) r9 r10 w _ h_r11) ?_
        refine am_Rn.ite am_h226 (c := r11 = 0) (t := 79) (f := 81) (lv := [(0, .ref 83), (1, .int v1), (2, .int v2)]) (st := []) (S' := (am_sh, hx, w.1, w.2)) rfl hp (fun hc12 hp => ?_) (fun hc12 hp => ?_)
        · refine am_Rn.run am_h226 1 (F' := (80, [(0, .ref 83), (1, .int v1), (2, .int v2)], [.int 3])) (S' := (am_sh, hx, w.1, w.2)) rfl ?_
          cases hp
          exact am_Rn.ret am_h226 rfl
        · refine am_Rn.run am_h226 2 (F' := (41, [(2, .int (v2 + 1)), (0, .ref 83), (1, .int v1)], [])) (S' := (am_sh, hx, w.1, w.2)) rfl ?_
          refine am_Rn.sub [1, 2, 0] rfl rfl ?_
          exact ezM_whyNot_L41 hd R n v1 (v2 + 1) w hp
    · refine am_Rn.run am_h226 2 (F' := (89, [(0, .ref 83), (1, .int v1), (2, .int v2)], [.int v1, .ref 83])) (S' := (am_sh, hx, w.1, w.2)) rfl ?_
      obtain ⟨r13, h_r13, hp⟩ := am_bind hp
      refine am_Rn.call am_h226 (mj := 222) (As := [.ref 83, .int v1]) (F' := (92, [(0, .ref 83), (1, .int v1), (2, .int v2)], [])) (M' := am_m222) (r := some (.int r13)) (S1 := (am_sh, hx, w.1, w.2)) rfl am_h222 rfl (ezM_crosses (by omega) v1 w _ h_r13) ?_
      refine am_Rn.ite am_h226 (c := r13 = 0) (t := 97) (f := 95) (lv := [(0, .ref 83), (1, .int v1), (2, .int v2)]) (st := []) (S' := (am_sh, hx, w.1, w.2)) rfl hp (fun hc14 hp => ?_) (fun hc14 hp => ?_)
      · refine am_Rn.run am_h226 2 (F' := (99, [(2, .int 0), (0, .ref 83), (1, .int v1)], [])) (S' := (am_sh, hx, w.1, w.2)) rfl ?_
        refine am_Rn.sub [1, 2, 0] rfl rfl ?_
        exact ezM_whyNot_L99 hd R am_N v1 0 w hp
      · refine am_Rn.run am_h226 1 (F' := (96, [(0, .ref 83), (1, .int v1), (2, .int v2)], [.int 4])) (S' := (am_sh, hx, w.1, w.2)) rfl ?_
        cases hp
        exact am_Rn.ret am_h226 rfl
def zM_whyNot_L2 : Nat → Int32 → Int32 → zHM → Option (Int32 × zHM)
  | 0, _, _, _ => none
  | n + 1, v1, v2, w => if v2 < (w.1 84 1) then ((zM_isAsWanted v1 v2 w).bind fun r2 => if r2 = 0 then (some ((1, w))) else (zM_whyNot_L2 n v1 (v2 + 1) w)) else ((zM_holdsTwo v1 w).bind fun r4 => if r4 = 0 then (zM_whyNot_L41 am_N v1 0 w) else (some ((2, w))))
set_option maxRecDepth 20000 in
theorem ezM_whyNot_L2 {d : Nat} (hd : 5 ≤ d) (R : Int32 × zHM) : ∀ (n : Nat) (v1 : Int32) (v2 : Int32) (w : zHM), zM_whyNot_L2 n v1 v2 w = some R → am_Rn 83 Xs am_P d 226 (2, [(0, .ref 83), (1, .int v1), (2, .int v2)], []) (am_sh, hx, w.1, w.2) (some (.int R.1), (am_sh, hx, R.2.1, R.2.2))
  | 0, _, _, _, hp => by cases hp
  | n + 1, v1, v2, w, hp => by
    obtain ⟨d, rfl⟩ : ∃ k, d = k + 1 := ⟨d - 1, by omega⟩
    unfold zM_whyNot_L2 at hp
    refine am_Rn.run am_h226 5 (F' := (9, [(0, .ref 83), (1, .int v1), (2, .int v2)], [.int (w.1 84 1), .int v2])) (S' := (am_sh, hx, w.1, w.2)) rfl ?_
    refine am_Rn.ite am_h226 (c := v2 < (w.1 84 1)) (t := 12) (f := 29) (lv := [(0, .ref 83), (1, .int v1), (2, .int v2)]) (st := []) (S' := (am_sh, hx, w.1, w.2)) rfl hp (fun hc1 hp => ?_) (fun hc1 hp => ?_)
    · refine am_Rn.run am_h226 3 (F' := (15, [(0, .ref 83), (1, .int v1), (2, .int v2)], [.int v2, .int v1, .ref 83])) (S' := (am_sh, hx, w.1, w.2)) rfl ?_
      obtain ⟨r2, h_r2, hp⟩ := am_bind hp
      refine am_Rn.call am_h226 (mj := 219) (As := [.ref 83, .int v1, .int v2]) (F' := (18, [(0, .ref 83), (1, .int v1), (2, .int v2)], [])) (M' := am_m219) (r := some (.int r2)) (S1 := (am_sh, hx, w.1, w.2)) rfl am_h219 rfl (ezM_isAsWanted (by omega) v1 v2 w _ h_r2) ?_
      refine am_Rn.ite am_h226 (c := r2 = 0) (t := 21) (f := 23) (lv := [(0, .ref 83), (1, .int v1), (2, .int v2)]) (st := []) (S' := (am_sh, hx, w.1, w.2)) rfl hp (fun hc3 hp => ?_) (fun hc3 hp => ?_)
      · refine am_Rn.run am_h226 1 (F' := (22, [(0, .ref 83), (1, .int v1), (2, .int v2)], [.int 1])) (S' := (am_sh, hx, w.1, w.2)) rfl ?_
        cases hp
        exact am_Rn.ret am_h226 rfl
      · refine am_Rn.run am_h226 2 (F' := (2, [(2, .int (v2 + 1)), (0, .ref 83), (1, .int v1)], [])) (S' := (am_sh, hx, w.1, w.2)) rfl ?_
        refine am_Rn.sub [1, 2, 0] rfl rfl ?_
        exact ezM_whyNot_L2 hd R n v1 (v2 + 1) w hp
    · refine am_Rn.run am_h226 2 (F' := (31, [(0, .ref 83), (1, .int v1), (2, .int v2)], [.int v1, .ref 83])) (S' := (am_sh, hx, w.1, w.2)) rfl ?_
      obtain ⟨r4, h_r4, hp⟩ := am_bind hp
      refine am_Rn.call am_h226 (mj := 221) (As := [.ref 83, .int v1]) (F' := (34, [(0, .ref 83), (1, .int v1), (2, .int v2)], [])) (M' := am_m221) (r := some (.int r4)) (S1 := (am_sh, hx, w.1, w.2)) rfl am_h221 rfl (ezM_holdsTwo (by omega) v1 w _ h_r4) ?_
      refine am_Rn.ite am_h226 (c := r4 = 0) (t := 39) (f := 37) (lv := [(0, .ref 83), (1, .int v1), (2, .int v2)]) (st := []) (S' := (am_sh, hx, w.1, w.2)) rfl hp (fun hc5 hp => ?_) (fun hc5 hp => ?_)
      · refine am_Rn.run am_h226 2 (F' := (41, [(2, .int 0), (0, .ref 83), (1, .int v1)], [])) (S' := (am_sh, hx, w.1, w.2)) rfl ?_
        refine am_Rn.sub [1, 2, 0] rfl rfl ?_
        exact ezM_whyNot_L41 hd R am_N v1 0 w hp
      · refine am_Rn.run am_h226 1 (F' := (38, [(0, .ref 83), (1, .int v1), (2, .int v2)], [.int 2])) (S' := (am_sh, hx, w.1, w.2)) rfl ?_
        cases hp
        exact am_Rn.ret am_h226 rfl
def zM_whyNot (v1 : Int32) (w : zHM) : Option (Int32 × zHM) := zM_whyNot_L2 am_N v1 0 w
set_option maxRecDepth 20000 in
theorem ezM_whyNot {d : Nat} (hd : 5 ≤ d) (v1 : Int32) (w : zHM) (R : Int32 × zHM) (hp : zM_whyNot v1 w = some R) : am_Ev 83 Xs am_P d 226 [.ref 83, .int v1] (am_sh, hx, w.1, w.2) (some (.int R.1), (am_sh, hx, R.2.1, R.2.2)) := by
  obtain ⟨d, rfl⟩ : ∃ k, d = k + 1 := ⟨d - 1, by omega⟩
  unfold zM_whyNot at hp
  show am_Rn 83 Xs am_P _ 226 (0, [(0, .ref 83), (1, .int v1)], []) _ _
  refine am_Rn.run am_h226 2 (F' := (2, [(2, .int 0), (0, .ref 83), (1, .int v1)], [])) (S' := (am_sh, hx, w.1, w.2)) rfl ?_
  refine am_Rn.sub [1, 2, 0] rfl rfl ?_
  exact ezM_whyNot_L2 hd R am_N v1 0 w hp
end
