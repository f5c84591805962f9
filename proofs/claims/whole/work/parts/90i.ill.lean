/-! THE HEART: ill, both -/
section
variable {t m : Nat} {T S : Nat → Nat} {E : Nat → Int32} {h : Nat → Nat → Int32}
theorem qh_behL (ht : t < 24) (hm : m ≤ 720) (e73 : h 73 t = nI m) (e72 : ∀ j, j < m → h 72 (t * 720 + j) = nI (T j) ∧ T j ≤ 1000000) (esw : ∀ j, j < m → zS_swapsFromTold (nI t) (h 71 (t * 720 + j)) h = some (nI (S j)) ∧ S j ≤ 1000000) : ∀ (k n j b : Nat), j + k = m → k < n → b ≤ 1000000 → zS_fewestBehind_L14 n (nI t) (nI b) (nI (t * 720)) (nI (t * 720 + j)) h = some (nI (qz_m (fun j => T j + S j) b j k))
  | 0, n + 1, j, b, hj, _, hb => by
    have : j = m := by omega
    subst this
    simp (disch := omega) only [↓reduceIte, zS_fewestBehind_L14, qa_ix, qa_cl, e73, nI_add, qa_ltF, qz_m]
  | k + 1, n + 1, j, b, hj, hn, hb => by
    obtain ⟨e1, e2⟩ := e72 j (by omega)
    obtain ⟨e3, e4⟩ := esw j (by omega)
    rw [show qz_m (fun j => T j + S j) b j (k + 1) = qz_m (fun j => T j + S j) (min b (T j + S j)) (j + 1) k from rfl]
    have ih := qh_behL ht hm e73 e72 esw k n (j + 1) (min b (T j + S j)) (by omega) (by omega) (by omega)
    rw [← ih]
    by_cases q : T j + S j < b
    · rw [show min b (T j + S j) = T j + S j by omega]
      simp (disch := omega) only [↓reduceIte, ↓qa_b, zS_fewestBehind_L14, zD_min, qa_ix, qa_cl, e73, nI_add, qa_ltT, e1, e3, Option.bind_some, qa_lit, Nat.add_assoc]
    · rw [show min b (T j + S j) = b by omega]
      simp (disch := omega) only [↓reduceIte, ↓qa_b, zS_fewestBehind_L14, zD_min, qa_ix, qa_cl, e73, nI_add, qa_ltT, qa_ltF, e1, e3, Option.bind_some, qa_lit, Nat.add_assoc]
theorem qm_illL {w : zHM} (ht : t < 24) (hm : m ≤ 720) (e93 : w.1 93 t = nI m) (e94 : ∀ j, j < m → w.1 94 (720 * t + j) = nI (T j) ∧ T j ≤ 1000000) (h0 : t = 0 → ∀ j, S j = 0) (h1 : 0 < t → ∀ u, qf_s w u → ∀ j, j < m → ∃ u', zM_swappedInto (nI t) (nI j) u = some (nI (S j), u') ∧ qf_s w u') (hS : ∀ j, S j ≤ 1000000) : ∀ (k n j b : Nat) (u : zHM), j + k = m → k < n → b ≤ 1000000 → qf_s w u → ∃ u', zM_ill_L55 n (nI t) (nI b) (nI j) u = some ((if qz_m (fun j => T j + S j) b j k < 1000000 then nI (qz_m (fun j => T j + S j) b j k) else qN), u') ∧ qf_s w u'
  | 0, n + 1, j, b, u, hj, _, hb, fr => by
    have : j = m := by omega
    subst this
    have E93 : u.1 93 t = nI j := by rw [fr 93 (by omega) (by omega)]; exact e93
    refine ⟨u, ?_, fr⟩
    rw [show qz_m (fun j => T j + S j) b j 0 = b from rfl]
    by_cases q : b < 1000000
    · rw [if_pos q]
      simp (disch := omega) only [↓reduceIte, zM_ill_L55, qa_ix, qa_cl, E93, qa_ltF, qa_ltT, qa_lit]
    · rw [if_neg q]
      simp (disch := omega) only [↓reduceIte, zM_ill_L55, qa_ix, qa_cl, E93, qa_ltF, qa_lit, qa_neg1]
  | k + 1, n + 1, j, b, u, hj, hn, hb, fr => by
    have E93 : u.1 93 t = nI m := by rw [fr 93 (by omega) (by omega)]; exact e93
    obtain ⟨e1, e2⟩ := e94 j (by omega)
    have E94 : u.1 94 (720 * t + j) = nI (T j) := by rw [fr 94 (by omega) (by omega)]; exact e1
    have sj := hS j
    rw [show qz_m (fun j => T j + S j) b j (k + 1) = qz_m (fun j => T j + S j) (min b (T j + S j)) (j + 1) k from rfl]
    have step : ∃ u1, zM_ill_L55 (n + 1) (nI t) (nI b) (nI j) u = zM_ill_L55 n (nI t) (nI (min b (T j + S j))) (nI (j + 1)) u1 ∧ qf_s w u1 := by
      rcases Nat.eq_zero_or_pos t with hz | hz
      · have z := h0 hz j
        refine ⟨u, ?_, fr⟩
        subst hz
        rw [z, show T j + 0 = T j from rfl]
        by_cases q : T j < b
        · rw [show min b (T j) = T j by omega]
          simp (disch := omega) only [↓reduceIte, ↓qa_b, zM_ill_L55, zM_ill_J94, qa_ix, qa_cl, E93, qa_ltT, qa_lit, pk_mul, nI_add, E94, Nat.add_zero]
        · rw [show min b (T j) = b by omega]
          simp (disch := omega) only [↓reduceIte, ↓qa_b, zM_ill_L55, zM_ill_J94, qa_ix, qa_cl, E93, qa_ltT, qa_ltF, qa_lit, pk_mul, nI_add, E94, Nat.add_zero]
      · obtain ⟨u1, c1, f1⟩ := h1 hz u fr j (by omega)
        refine ⟨u1, ?_, f1⟩
        by_cases q : T j + S j < b
        · rw [show min b (T j + S j) = T j + S j by omega]
          simp (disch := omega) only [↓reduceIte, ↓qa_b, zM_ill_L55, zM_ill_J94, qa_ix, qa_cl, E93, qa_ltT, qa_eqF, qa_lit, pk_mul, nI_add, E94, c1, Option.bind_some]
        · rw [show min b (T j + S j) = b by omega]
          simp (disch := omega) only [↓reduceIte, ↓qa_b, zM_ill_L55, zM_ill_J94, qa_ix, qa_cl, E93, qa_ltT, qa_ltF, qa_eqF, qa_lit, pk_mul, nI_add, E94, c1, Option.bind_some]
    obtain ⟨u1, c1, f1⟩ := step
    rw [c1]
    exact qm_illL ht hm e93 e94 h0 h1 hS k n (j + 1) (min b (T j + S j)) u1 (by omega) (by omega) (by omega) f1
end
section
variable {k P pn fn tn bn pn' fn' tn' bn' tl : Nat} {h : Nat → Nat → Int32} {w : zHM}
theorem qo_ill (H : qi_core k P pn fn tn bn pn' fn' tn' bn' tl h w) (C : qi_cch pn fn bn h (w.1 84) (w.1 86)) (v1 v2 : Int32) : ∃ r h' w', zH_ill v1 v2 h = some (r, h') ∧ zM_ill v1 v2 w = some (r, w') ∧ qi_scr h w h' w' ∧ qi_cch pn fn bn h' (w.1 84) (w.1 86) := by
  obtain ⟨⟨x, hru, hx, hakH⟩, hakM⟩ := qk_ask H
  obtain ⟨⟨hP3, hP8, hP, htn⟩, HA, -, HS, -⟩ := id H
  obtain ⟨a0, a1, a4, a6, lpn, lfn, ltn, lbn⟩ := id HA.1
  obtain ⟨⟨s0, s1, s4, s9, s10, s11, s12, s13⟩, -⟩ := id (qi_stg0 HS)
  have id0 : qi_scr h w h w := ⟨fun _ _ => rfl, fun _ _ => rfl, fun _ _ _ => rfl⟩
  have q2 := qm_beat a6 lbn v2
  have q0 := qa_in00 v1 (n := pn) (by omega)
  rcases qa_arg v1 pn with hv | ⟨y, hy, hy', rfl⟩ | ⟨p, hp, hp', rfl⟩
  · refine ⟨qN, h, w, ?_, ?_, id0, C⟩
    · simp (disch := omega) only [qa_b, qa_lit, qa_neg1, qa_qN, nI_add, pk_mul, qa_ix, qa_cl, qa_ltT, qa_ltF, qa_eqT, qa_eqF, qa_nN, qa_Nn, qa_ltN, qa_Nlt, qa_NN, qa_ltNN, qa_sub, qa_dec, qa_dec0, qa_sub0, qa_incN, qa_31, qa_shr, qa_shl, qa_and1, va_up_self, qa_une, pk_us, pk_un, qa_up2, qa_upd2, Option.bind_some, if_true, if_false, and_true, true_and, and_self, qa_f1, qa_f2, zH_ill, hv]
    · simp (disch := omega) only [qa_b, qa_lit, qa_neg1, qa_qN, nI_add, pk_mul, qa_ix, qa_cl, qa_ltT, qa_ltF, qa_eqT, qa_eqF, qa_nN, qa_Nn, qa_ltN, qa_Nlt, qa_NN, qa_ltNN, qa_sub, qa_dec, qa_dec0, qa_sub0, qa_incN, qa_31, qa_shr, qa_shl, qa_and1, va_up_self, qa_une, pk_us, pk_un, qa_up2, qa_upd2, Option.bind_some, if_true, if_false, and_true, true_and, and_self, qa_f1, qa_f2, zM_ill, a0, q0, hv]
  · refine ⟨qN, h, w, ?_, ?_, id0, C⟩
    · simp (disch := omega) only [qa_b, qa_lit, qa_neg1, qa_qN, nI_add, pk_mul, qa_ix, qa_cl, qa_ltT, qa_ltF, qa_eqT, qa_eqF, qa_nN, qa_Nn, qa_ltN, qa_Nlt, qa_NN, qa_ltNN, qa_sub, qa_dec, qa_dec0, qa_sub0, qa_incN, qa_31, qa_shr, qa_shl, qa_and1, va_up_self, qa_une, pk_us, pk_un, qa_up2, qa_upd2, Option.bind_some, if_true, if_false, and_true, true_and, and_self, qa_f1, qa_f2, zH_ill, s1]
    · simp (disch := omega) only [qa_b, qa_lit, qa_neg1, qa_qN, nI_add, pk_mul, qa_ix, qa_cl, qa_ltT, qa_ltF, qa_eqT, qa_eqF, qa_nN, qa_Nn, qa_ltN, qa_Nlt, qa_NN, qa_ltNN, qa_sub, qa_dec, qa_dec0, qa_sub0, qa_incN, qa_31, qa_shr, qa_shl, qa_and1, va_up_self, qa_une, pk_us, pk_un, qa_up2, qa_upd2, Option.bind_some, if_true, if_false, and_true, true_and, and_self, qa_f1, qa_f2, zM_ill, a0, q0]
  have q0' : zM_isIn (nI p) (nI 0) (nI (pn - 1)) = nI 1 := by simp (disch := omega) only [↓reduceIte, zM_isIn, qa_ltF, qa_lit]
  rcases qa_arg v2 bn with hv | ⟨y, hy, hy', rfl⟩ | ⟨t, ht, ht', rfl⟩
  · refine ⟨qN, h, w, ?_, ?_, id0, C⟩
    · simp (disch := omega) only [qa_b, qa_lit, qa_neg1, qa_qN, nI_add, pk_mul, qa_ix, qa_cl, qa_ltT, qa_ltF, qa_eqT, qa_eqF, qa_nN, qa_Nn, qa_ltN, qa_Nlt, qa_NN, qa_ltNN, qa_sub, qa_dec, qa_dec0, qa_sub0, qa_incN, qa_31, qa_shr, qa_shl, qa_and1, va_up_self, qa_une, pk_us, pk_un, qa_up2, qa_upd2, Option.bind_some, if_true, if_false, and_true, true_and, and_self, qa_f1, qa_f2, zH_ill, zH_isBeat, s1, hv]
    · simp (disch := omega) only [qa_b, qa_lit, qa_neg1, qa_qN, nI_add, pk_mul, qa_ix, qa_cl, qa_ltT, qa_ltF, qa_eqT, qa_eqF, qa_nN, qa_Nn, qa_ltN, qa_Nlt, qa_NN, qa_ltNN, qa_sub, qa_dec, qa_dec0, qa_sub0, qa_incN, qa_31, qa_shr, qa_shl, qa_and1, va_up_self, qa_une, pk_us, pk_un, qa_up2, qa_upd2, Option.bind_some, if_true, if_false, and_true, true_and, and_self, qa_f1, qa_f2, zM_ill, a0, q0', q2, hv]
  · refine ⟨qN, h, w, ?_, ?_, id0, C⟩
    · simp (disch := omega) only [qa_b, qa_lit, qa_neg1, qa_qN, nI_add, pk_mul, qa_ix, qa_cl, qa_ltT, qa_ltF, qa_eqT, qa_eqF, qa_nN, qa_Nn, qa_ltN, qa_Nlt, qa_NN, qa_ltNN, qa_sub, qa_dec, qa_dec0, qa_sub0, qa_incN, qa_31, qa_shr, qa_shl, qa_and1, va_up_self, qa_une, pk_us, pk_un, qa_up2, qa_upd2, Option.bind_some, if_true, if_false, and_true, true_and, and_self, qa_f1, qa_f2, zH_ill, zH_isBeat, s1, s13]
    · simp (disch := omega) only [qa_b, qa_lit, qa_neg1, qa_qN, nI_add, pk_mul, qa_ix, qa_cl, qa_ltT, qa_ltF, qa_eqT, qa_eqF, qa_nN, qa_Nn, qa_ltN, qa_Nlt, qa_NN, qa_ltNN, qa_sub, qa_dec, qa_dec0, qa_sub0, qa_incN, qa_31, qa_shr, qa_shl, qa_and1, va_up_self, qa_une, pk_us, pk_un, qa_up2, qa_upd2, Option.bind_some, if_true, if_false, and_true, true_and, and_self, qa_f1, qa_f2, zM_ill, a0, q0', q2]
  obtain ⟨ei, hs⟩ := qt_ill pn (by omega) p hp
  have E8 : 1 ≤ 2 ^ pn ∧ 2 ^ pn ≤ 8 := by
    rcases (show pn = 0 ∨ pn = 1 ∨ pn = 2 ∨ pn = 3 by omega) with rfl | rfl | rfl | rfl <;> decide
  have eL := qa_1shl (i := pn) (by omega)
  have eP := qa_1shl (i := p) (by omega)
  generalize qk_o pn p = st at *
  have h8 := (qs_set_tb pn (by omega) st hs).1
  obtain ⟨c1, hmo, hk, e2', ⟨eh, hk6⟩, cc⟩ := id C
  obtain ⟨h1, el, f1, f2, f3, HL⟩ := qk_learn HA hP8 hx HS hakH c1
  have HS1 := qi_stg_h (h' := h1) (fun c _ hc => f1 c (by omega)) HS
  obtain ⟨h2, h3, y1, y2, y3, y4, y5⟩ := qy_play (st := st) (sk := 0) (c := 1) (b := t) HA hP8 HS1 HL e2' hs (by omega) eh hk6 (Nat.le_refl 1) (by omega)
  obtain ⟨u, x1, x2, x3, x4⟩ := qm_reckon (hmo := hmo) (st := st) (sk := 0) (hk := hk) (b := t) HA hP8 hakM e2' hs (by omega) eh hk6 (by omega)
  have HS3 := qi_stg_h (h' := h3) (fun c _ hc => y3 c (by omega)) HS1
  have u84 := x2 84 (by omega) (by omega) (by omega) (by omega)
  have u86 := x2 86 (by omega) (by omega) (by omega) (by omega)
  have HAu : qi_a (100 * k) P pn fn tn bn (u.1 84) := by rw [u84]; exact HA
  have wl : (qe_W (w.1 84) (w.1 86) pn fn st 0 (qs_or hmo pn) hk t).length ≤ 720 := qx_W_len HA hs hk6
  obtain ⟨r1, r2⟩ := x4 t (Nat.le_refl _) ht
  have l3 : ∀ c, c ≤ 58 → h3 c = h c := fun c hc => by rw [y3 c (by omega), f1 c hc]
  have CC : qi_cch pn fn bn h3 (w.1 84) (w.1 86) := ⟨Or.inr ⟨by rw [y3 59 (by omega)]; exact f3, fun t ht f hf => qk_ok_h ⟨by rw [y3 62 (by omega)], by rw [y3 63 (by omega)], by rw [y3 64 (by omega)]⟩ (HL t ht f hf)⟩, hmo, hk, e2', ⟨eh, hk6⟩, fun j hj => ⟨qi_pc_c (qc_e.rf _ _) lfn lbn ⟨by rw [y3 77 (by omega), f2 77 (by omega)], by rw [y3 78 (by omega), f2 78 (by omega)]⟩ (fun i _ _ => by rw [y3 79 (by omega), f2 79 (by omega)]) (cc j hj).1, qi_kc_c (qc_e.rf _ _) lfn lbn ⟨by rw [y3 80 (by omega), f2 80 (by omega)], by rw [y3 81 (by omega), f2 81 (by omega)], by rw [y3 82 (by omega), f2 82 (by omega)]⟩ (cc j hj).2⟩⟩
  -- the price of swaps out of the plan told
  obtain ⟨S, hS⟩ : ∃ S : Nat → Nat, S = fun j => if t = 0 then 0 else qk_i (qk_iD (w.1 84) st (t - 1) (qy_x (qe_W (w.1 84) (w.1 86) pn fn st 0 (qs_or hmo pn) hk t) j)) (qk_iG (w.1 84) (w.1 86) st (t - 1) (qy_x (qe_W (w.1 84) (w.1 86) pn fn st 0 (qs_or hmo pn) hk t) j)) 0 0 fn := ⟨_, rfl⟩
  have S6 : ∀ j, S j ≤ 1000000 := fun j => by
    rw [hS]
    simp only
    split
    · omega
    · exact qk_i_le _ _ _ (by omega)
  have wf : ∀ j, j < (qe_W (w.1 84) (w.1 86) pn fn st 0 (qs_or hmo pn) hk t).length → (∀ g, qy_x (qe_W (w.1 84) (w.1 86) pn fn st 0 (qs_or hmo pn) hk t) j g < 6) ∧ ∀ f, f < fn → qs_on (w.1 84) t f = true → qs_ho (qs_kd (w.1 84) f) st (qy_x (qe_W (w.1 84) (w.1 86) pn fn st 0 (qs_or hmo pn) hk t) j f) ≠ 0 := fun j hj => by
    obtain ⟨m1, m2, m3⟩ := qx_W_mem HA hs hk6 (qy_x_m hj)
    refine ⟨m3, fun f hf ho => ?_⟩
    have xc := (m1 f hf (by rw [qx_on0 hf]; exact ho)).2
    unfold qs_ch at xc
    rw [Bool.and_eq_true, decide_eq_true_eq] at xc
    exact xc.1
  obtain ⟨u', z1, z2⟩ := qm_illL (t := t) (m := (qe_W (w.1 84) (w.1 86) pn fn st 0 (qs_or hmo pn) hk t).length) (T := fun j => qe_T (w.1 84) (w.1 86) pn fn bn st 0 (qs_or hmo pn) hk 1 t (qy_x (qe_W (w.1 84) (w.1 86) pn fn st 0 (qs_or hmo pn) hk t) j)) (S := S) (w := u) (by omega) wl r1.1 (fun j hj => ⟨r2 j hj, qy_T_le _ _ _⟩) (fun z j => by rw [hS]; simp only; rw [if_pos z]) (fun z v fr j hj => by
    obtain ⟨s, rfl⟩ : ∃ s, t = s + 1 := ⟨t - 1, by omega⟩
    have v84 := fr 84 (by omega) (by omega)
    have v86 := fr 86 (by omega) (by omega)
    obtain ⟨u2, d1, d2⟩ := qm_intoL (w := u) (st := st) (t := s) (i := j) (x := qy_x (qe_W (w.1 84) (w.1 86) pn fn st 0 (qs_or hmo pn) hk (s + 1)) j) HAu hP8 (qk_askM_e hakM u84 u86) hs ht (by omega) (wf j hj).1 (by rw [u84]; exact (wf j hj).2) (fun f hf => by
      have e := r1.2 j _ (qy_x_s hj) f (by omega)
      rw [e, u84]
      unfold qw_s qx_hm
      rw [qx_on0 hf, if_pos (⟨hf, (wf j hj).1 f⟩ : f < fn ∧ _ < 6)]) fn am_N 0 0 v (by omega) (Nat.lt_of_le_of_lt lfn (by decide)) (Nat.le_refl 0) fr
    refine ⟨u2, ?_, d2⟩
    rw [hS]
    simp only
    rw [if_neg (by omega), Nat.add_sub_cancel]
    rw [u84, u86] at d1
    exact d1) S6 (qe_W (w.1 84) (w.1 86) pn fn st 0 (qs_or hmo pn) hk t).length am_N 0 1000000 u (by omega) (Nat.lt_of_le_of_lt wl (by decide)) (Nat.le_refl _) (qf_s.rf u)
  have zM : zM_ill (nI p) (nI t) w = some ((if qz_m (fun j => qe_T (w.1 84) (w.1 86) pn fn bn st 0 (qs_or hmo pn) hk 1 t (qy_x (qe_W (w.1 84) (w.1 86) pn fn st 0 (qs_or hmo pn) hk t) j) + S j) 1000000 0 (qe_W (w.1 84) (w.1 86) pn fn st 0 (qs_or hmo pn) hk t).length < 1000000 then nI (qz_m (fun j => qe_T (w.1 84) (w.1 86) pn fn bn st 0 (qs_or hmo pn) hk 1 t (qy_x (qe_W (w.1 84) (w.1 86) pn fn st 0 (qs_or hmo pn) hk t) j) + S j) 1000000 0 (qe_W (w.1 84) (w.1 86) pn fn st 0 (qs_or hmo pn) hk t).length) else qN), u') := by
    rw [← z1]
    simp (disch := omega) only [qa_b, qa_lit, qa_neg1, qa_qN, nI_add, pk_mul, qa_ix, qa_cl, qa_ltT, qa_ltF, qa_eqT, qa_eqF, qa_nN, qa_Nn, qa_ltN, qa_Nlt, qa_NN, qa_ltNN, qa_sub, qa_dec, qa_dec0, qa_sub0, qa_incN, qa_31, qa_shr, qa_shl, qa_and1, va_up_self, qa_une, pk_us, pk_un, qa_up2, qa_upd2, Option.bind_some, if_true, if_false, and_true, true_and, and_self, qa_f1, qa_f2, zM_ill, a0, q0', q2, eL, eP, ei, x1]
  have scr : qi_scr h w h3 u' := ⟨fun c hc => l3 c (by omega), fun c hc => by rw [z2 c (by omega) (by omega), x2 c (by omega) (by omega) (by omega) (by omega)], fun j j1 j2 => by rw [z2 83 (by omega) (by omega), x3 j j1 j2]⟩
  refine ⟨_, h3, u', ?_, zM, scr, CC⟩
  clear zM z1
  have eR : qy_R fn bn 1 (qx_on (w.1 84) fn 0) (qs_kd (w.1 84)) (qe_pv (w.1 84) (w.1 86)) (qe_W (w.1 84) (w.1 86) pn fn st 0 (qs_or hmo pn) hk) t = qz_m (fun j => qe_T (w.1 84) (w.1 86) pn fn bn st 0 (qs_or hmo pn) hk 1 t (qy_x (qe_W (w.1 84) (w.1 86) pn fn st 0 (qs_or hmo pn) hk t) j)) 1000000 0 (qe_W (w.1 84) (w.1 86) pn fn st 0 (qs_or hmo pn) hk t).length := by
    unfold qy_R
    rw [if_pos ht]
    rfl
  obtain ⟨R, hR⟩ : ∃ R, R = qy_R fn bn 1 (qx_on (w.1 84) fn 0) (qs_kd (w.1 84)) (qe_pv (w.1 84) (w.1 86)) (qe_W (w.1 84) (w.1 86) pn fn st 0 (qs_or hmo pn) hk) t := ⟨_, rfl⟩
  have R6 : R ≤ 1000000 := by
    rw [hR, eR]
    exact (qz_m_le _ _ _ _).1
  rw [← hR] at y2 y5
  rw [← hR] at eR
  by_cases q : R < 1000000
  · have rows := y5 q t (Nat.le_refl _) ht
    rcases Nat.eq_zero_or_pos t with hz | hz
    · have e0 : qz_m (fun j => qe_T (w.1 84) (w.1 86) pn fn bn st 0 (qs_or hmo pn) hk 1 t (qy_x (qe_W (w.1 84) (w.1 86) pn fn st 0 (qs_or hmo pn) hk t) j) + S j) 1000000 0 (qe_W (w.1 84) (w.1 86) pn fn st 0 (qs_or hmo pn) hk t).length = R := by
        rw [eR]
        exact qz_m_c _ _ _ (fun i _ _ => by rw [hS]; simp only; rw [if_pos hz, Nat.add_zero])
      rw [e0, if_pos q]
      subst hz
      simp (disch := omega) only [qa_b, qa_lit, qa_neg1, qa_qN, nI_add, pk_mul, qa_ix, qa_cl, qa_ltT, qa_ltF, qa_eqT, qa_eqF, qa_nN, qa_Nn, qa_ltN, qa_Nlt, qa_NN, qa_ltNN, qa_sub, qa_dec, qa_dec0, qa_sub0, qa_incN, qa_31, qa_shr, qa_shl, qa_and1, va_up_self, qa_une, pk_us, pk_un, qa_up2, qa_upd2, Option.bind_some, if_true, if_false, and_true, true_and, and_self, qa_f1, qa_f2, zH_ill, zH_isBeat, zH_everybody, zH_ill_J106, s1, s13, hru, el, eL, eP, ei, y1, y2, (f1 1 (by omega))]
    · obtain ⟨s, rfl⟩ : ∃ s, t = s + 1 := ⟨t - 1, by omega⟩
      have B := qh_behL (t := s + 1) (m := (qe_W (w.1 84) (w.1 86) pn fn st 0 (qs_or hmo pn) hk (s + 1)).length) (T := fun j => qe_T (w.1 84) (w.1 86) pn fn bn st 0 (qs_or hmo pn) hk 1 (s + 1) (qy_x (qe_W (w.1 84) (w.1 86) pn fn st 0 (qs_or hmo pn) hk (s + 1)) j)) (S := S) (h := h3) (by omega) wl rows.1 (fun j hj => ⟨(rows.2.1 j hj).2, qy_T_le _ _ _⟩) (fun j hj => ⟨by
        rw [(rows.2.1 j hj).1, hS]
        simp only
        rw [if_neg (by omega), Nat.add_sub_cancel]
        exact qh_toldL HA HS3 y4 hs ht (wf j hj).1 (wf j hj).2 fn am_N 0 0 (by omega) (Nat.lt_of_le_of_lt lfn (by decide)) (Nat.le_refl 0), S6 j⟩) (qe_W (w.1 84) (w.1 86) pn fn st 0 (qs_or hmo pn) hk (s + 1)).length am_N 0 1000000 (by omega) (Nat.lt_of_le_of_lt wl (by decide)) (Nat.le_refl _)
      rw [Nat.add_zero] at B
      have m6 := (qz_m_le (fun j => qe_T (w.1 84) (w.1 86) pn fn bn st 0 (qs_or hmo pn) hk 1 (s + 1) (qy_x (qe_W (w.1 84) (w.1 86) pn fn st 0 (qs_or hmo pn) hk (s + 1)) j) + S j) (qe_W (w.1 84) (w.1 86) pn fn st 0 (qs_or hmo pn) hk (s + 1)).length 1000000 0).1
      generalize qz_m (fun j => qe_T (w.1 84) (w.1 86) pn fn bn st 0 (qs_or hmo pn) hk 1 (s + 1) (qy_x (qe_W (w.1 84) (w.1 86) pn fn st 0 (qs_or hmo pn) hk (s + 1)) j) + S j) 1000000 0 (qe_W (w.1 84) (w.1 86) pn fn st 0 (qs_or hmo pn) hk (s + 1)).length = M at *
      have B' : zS_fewestBehind (nI (s + 1)) h3 = some (nI M) := by
        rw [← B]
        simp (disch := omega) only [↓qa_b, zS_fewestBehind, qa_lit, pk_mul, Nat.add_zero]
      by_cases qM : M < 1000000
      · rw [if_pos qM]
        simp (disch := omega) only [qa_b, qa_lit, qa_neg1, qa_qN, nI_add, pk_mul, qa_ix, qa_cl, qa_ltT, qa_ltF, qa_eqT, qa_eqF, qa_nN, qa_Nn, qa_ltN, qa_Nlt, qa_NN, qa_ltNN, qa_sub, qa_dec, qa_dec0, qa_sub0, qa_incN, qa_31, qa_shr, qa_shl, qa_and1, va_up_self, qa_une, pk_us, pk_un, qa_up2, qa_upd2, Option.bind_some, if_true, if_false, and_true, true_and, and_self, qa_f1, qa_f2, zH_ill, zH_isBeat, zH_everybody, zH_ill_J106, s1, s13, hru, el, eL, eP, ei, y1, y2, (f1 1 (by omega)), B']
      · rw [if_neg qM]
        simp (disch := omega) only [qa_b, qa_lit, qa_neg1, qa_qN, nI_add, pk_mul, qa_ix, qa_cl, qa_ltT, qa_ltF, qa_eqT, qa_eqF, qa_nN, qa_Nn, qa_ltN, qa_Nlt, qa_NN, qa_ltNN, qa_sub, qa_dec, qa_dec0, qa_sub0, qa_incN, qa_31, qa_shr, qa_shl, qa_and1, va_up_self, qa_une, pk_us, pk_un, qa_up2, qa_upd2, Option.bind_some, if_true, if_false, and_true, true_and, and_self, qa_f1, qa_f2, zH_ill, zH_isBeat, zH_everybody, zH_ill_J106, s1, s13, hru, el, eL, eP, ei, y1, y2, (f1 1 (by omega)), B']
  · have e0 : qz_m (fun j => qe_T (w.1 84) (w.1 86) pn fn bn st 0 (qs_or hmo pn) hk 1 t (qy_x (qe_W (w.1 84) (w.1 86) pn fn st 0 (qs_or hmo pn) hk t) j) + S j) 1000000 0 (qe_W (w.1 84) (w.1 86) pn fn st 0 (qs_or hmo pn) hk t).length = 1000000 := qz_m_eq (Nat.le_refl _) (fun i hi => by
      have := (qz_m_le (fun j => qe_T (w.1 84) (w.1 86) pn fn bn st 0 (qs_or hmo pn) hk 1 t (qy_x (qe_W (w.1 84) (w.1 86) pn fn st 0 (qs_or hmo pn) hk t) j)) (qe_W (w.1 84) (w.1 86) pn fn st 0 (qs_or hmo pn) hk t).length 1000000 0).2.1 i (by omega) (by omega)
      omega) (Or.inl rfl)
    rw [e0, if_neg (by omega)]
    simp (disch := omega) only [qa_b, qa_lit, qa_neg1, qa_qN, nI_add, pk_mul, qa_ix, qa_cl, qa_ltT, qa_ltF, qa_eqT, qa_eqF, qa_nN, qa_Nn, qa_ltN, qa_Nlt, qa_NN, qa_ltNN, qa_sub, qa_dec, qa_dec0, qa_sub0, qa_incN, qa_31, qa_shr, qa_shl, qa_and1, va_up_self, qa_une, pk_us, pk_un, qa_up2, qa_upd2, Option.bind_some, if_true, if_false, and_true, true_and, and_self, qa_f1, qa_f2, zH_ill, zH_isBeat, zH_everybody, zH_ill_J106, s1, s13, hru, el, eL, eP, ei, y1, y2, (f1 1 (by omega))]
end
