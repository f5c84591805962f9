/-! THE HEART: fewest, found, take, least -/
theorem qs_ho_4 : ∀ pn, pn < 4 → ∀ st, st < 2 ^ pn → ∀ kd, kd < 3 → ∀ k, k < 6 → qs_ho kd st k < 4 ^ pn := by decide +kernel
theorem qc_e.rf (a tx : Nat → Int32) : qc_e a a tx tx := ⟨fun _ _ _ => rfl, fun _ _ _ => rfl⟩
theorem qc_e.of {a a' tx : Nat → Int32} (e : ∀ j, j < 200 → j ≠ 4 → a' j = a j) : qc_e a a' tx tx := ⟨e, fun s nm _ => by unfold ql_so qv; rw [e 5 (by omega) (by omega)]⟩
section
variable {k P pn fn tn bn pn' fn' tn' bn' tl : Nat} {h : Nat → Nat → Int32} {w : zHM}
/-- both look for a plan by set st: the same price, the same plan -/
theorem qo_few (H : qi_core k P pn fn tn bn pn' fn' tn' bn' tl h w) (C : qi_cch pn fn bn h (w.1 84) (w.1 86)) {st : Nat} (hs : st < 2 ^ pn) (es : zH_isSet (nI st) h = nI 1) (em : zM_isSet (nI st) w = nI 1) : ∃ (r : Nat) (pl : Nat → Nat → Nat) (h' : Nat → Nat → Int32) (w' : zHM), zH_fewest (nI st) h = some ((if r < 1000000 then nI r else qN), h') ∧ zM_fewest (nI st) w = some ((if r < 1000000 then nI r else qN), w') ∧ qi_scr h w h' w' ∧ qi_cch pn fn bn h' (w.1 84) (w.1 86) ∧ (r < 1000000 → (∀ t, t < bn → ∀ g, g < 6 → h' 79 (st * 144 + (t * 6 + g)) = nI (pl t g) ∧ pl t g < 4 ^ pn ∧ (fn ≤ g → pl t g = 0)) ∧ ∃ u, zM_goAlong w' = some u ∧ (∀ c, c = 84 ∨ c = 85 ∨ c = 86 ∨ c = 87 ∨ c = 83 → u.1 c = w'.1 c) ∧ ∀ t, t < bn → ∀ f, f < 6 → ∃ j, u.1 98 t = nI j ∧ u.1 92 (6 * (720 * t + j) + f) = nI (pl t f) ∧ j < 720) := by
  obtain ⟨c1, hmo, hk, e2, ⟨eh, hk6⟩, cc⟩ := id C
  obtain ⟨-, hakM⟩ := qk_ask H
  obtain ⟨⟨hP3, hP8, hP, htn⟩, HA, -, HS, -⟩ := id H
  obtain ⟨a0, a1, a4, a6, lpn, lfn, ltn, lbn⟩ := id HA.1
  have h8 := (qs_set_tb pn (by omega) st hs).1
  obtain ⟨h', x1, x2, x3, x4, x5, x6, x7, x8⟩ := qh_fewest H c1 e2 eh hk6 hs es (cc st h8).1
  obtain ⟨u, y1, y2, y3, y4⟩ := qm_fewest HA hP8 hakM e2 eh hk6 hs em
  refine ⟨_, qe_P (w.1 84) (w.1 86) pn fn bn st (qs_or hmo pn) hk, h', u, x1, y1, ⟨fun c hc => x2 c (by omega), fun c hc => y2 c (by omega) (by omega) (by omega) (by omega), y3⟩, ⟨x4, hmo, hk, e2, ⟨eh, hk6⟩, fun j hj => ?_⟩, fun hR => ⟨fun t ht g hg => ⟨?_, ?_, fun q => ?_⟩, ?_⟩⟩
  · refine ⟨?_, qi_kc_c (qc_e.rf _ _) lfn lbn ⟨by rw [x3 80 (by omega)], by rw [x3 81 (by omega)], by rw [x3 82 (by omega)]⟩ (cc j hj).2⟩
    by_cases q : j = st
    · rw [q]
      exact x8
    · exact qi_pc_c (qc_e.rf _ _) lfn lbn (x5 j q) (fun i i1 i2 => x6 i (by omega)) (cc j hj).1
  · rcases x8 with x8 | ⟨-, -, x8⟩
    · rw [x7] at x8
      cases x8
    · exact x8 hR t ht g hg
  · unfold qe_P qw_s
    split
    · next ho =>
      have hgf := (qx_on_t ho).1
      obtain ⟨-, k2⟩ := qi_kd HA hgf
      unfold qx_hm
      split
      · next q => exact qs_ho_4 pn (by omega) st hs _ (by omega) _ q.2
      · exact Nat.pow_pos (by omega)
    · exact Nat.pow_pos (by omega)
  · unfold qe_P qw_s qx_on
    rw [decide_eq_false (by omega), Bool.false_and]
    rfl
  · have e84 := y2 84 (by omega) (by omega) (by omega) (by omega)
    have e86 := y2 86 (by omega) (by omega) (by omega) (by omega)
    obtain ⟨v, z1, z2, z3⟩ := qm_along (w := u) (hmo := hmo) (st := st) (sk := 0) (hk := hk) (by rw [e84]; exact HA) hP8 (qk_askM_e hakM e84 e86) hs hk6 (by rw [e84, e86]; exact y4) (by rw [e84, e86]; exact hR)
    rw [e84, e86] at z3
    refine ⟨v, z1, fun c hc => z2 c (by omega) (by omega) (by omega) (by omega), fun t ht f hf => ?_⟩
    exact z3 t ht f hf
theorem qo_fewest (H : qi_core k P pn fn tn bn pn' fn' tn' bn' tl h w) (C : qi_cch pn fn bn h (w.1 84) (w.1 86)) (v1 : Int32) : ∃ r h' w', zH_fewest v1 h = some (r, h') ∧ zM_fewest v1 w = some (r, w') ∧ qi_scr h w h' w' ∧ qi_cch pn fn bn h' (w.1 84) (w.1 86) := by
  obtain ⟨⟨hP3, hP8, hP, htn⟩, HA, -, HS, -⟩ := id H
  rcases qo_isSet HA.1.2.2.2.2.1 HA.1.1 (qi_stg0 HS).1.2.1 v1 with ⟨e1, e2⟩ | ⟨e1, e2, st, hs, rfl⟩
  · refine ⟨qN, h, w, ?_, ?_, ⟨fun _ _ => rfl, fun _ _ => rfl, fun _ _ _ => rfl⟩, C⟩
    · simp (disch := omega) only [↓reduceIte, ↓qa_b, qa_b, qa_lit, qa_neg1, qa_qN, nI_add, pk_mul, qa_ix, qa_cl, qa_ltT, qa_ltF, qa_eqT, qa_eqF, qa_nN, qa_Nn, qa_ltN, qa_Nlt, qa_NN, qa_ltNN, qa_sub, qa_dec, qa_dec0, qa_sub0, qa_incN, qa_31, qa_shr, qa_shl, qa_and1, va_up_self, qa_une, pk_us, pk_un, qa_up2, qa_upd2, Option.bind_some, if_true, if_false, and_true, true_and, and_self, qa_f1, qa_f2, zH_fewest, e1]
    · simp (disch := omega) only [↓reduceIte, ↓qa_b, qa_b, qa_lit, qa_neg1, qa_qN, nI_add, pk_mul, qa_ix, qa_cl, qa_ltT, qa_ltF, qa_eqT, qa_eqF, qa_nN, qa_Nn, qa_ltN, qa_Nlt, qa_NN, qa_ltNN, qa_sub, qa_dec, qa_dec0, qa_sub0, qa_incN, qa_31, qa_shr, qa_shl, qa_and1, va_up_self, qa_une, pk_us, pk_un, qa_up2, qa_upd2, Option.bind_some, if_true, if_false, and_true, true_and, and_self, qa_f1, qa_f2, zM_fewest, e2]
  · obtain ⟨r, pl, h', w', x1, x2, x3, x4, -⟩ := qo_few H C hs e1 e2
    exact ⟨_, h', w', x1, x2, x3, x4⟩
theorem qo_found (H : qi_core k P pn fn tn bn pn' fn' tn' bn' tl h w) (C : qi_cch pn fn bn h (w.1 84) (w.1 86)) (v1 v2 v3 : Int32) : ∃ r h' w', zH_found v1 v2 v3 h = some (r, h') ∧ zM_found v1 v2 v3 w = some (r, w') ∧ qi_scr h w h' w' ∧ qi_cch pn fn bn h' (w.1 84) (w.1 86) := by
  obtain ⟨⟨hP3, hP8, hP, htn⟩, HA, -, HS, -⟩ := id H
  obtain ⟨a0, a1, a4, a6, lpn, lfn, ltn, lbn⟩ := id HA.1
  obtain ⟨⟨s0, s1, s4, s9, s10, s11, s12, s13⟩, -⟩ := id (qi_stg0 HS)
  have q1 := qm_figure a1 lfn v3
  have q2 := qm_beat a6 lbn v2
  have id0 : qi_scr h w h w := ⟨fun _ _ => rfl, fun _ _ => rfl, fun _ _ _ => rfl⟩
  rcases qa_arg v2 bn with hv | ⟨y, hy, hy', rfl⟩ | ⟨t, ht, ht', rfl⟩
  · refine ⟨qN, h, w, ?_, ?_, id0, C⟩
    · simp (disch := omega) only [qa_b, qa_lit, qa_neg1, qa_qN, nI_add, pk_mul, qa_ix, qa_cl, qa_ltT, qa_ltF, qa_eqT, qa_eqF, qa_nN, qa_Nn, qa_ltN, qa_Nlt, qa_NN, qa_ltNN, qa_sub, qa_dec, qa_dec0, qa_sub0, qa_incN, qa_31, qa_shr, qa_shl, qa_and1, va_up_self, qa_une, pk_us, pk_un, qa_up2, qa_upd2, Option.bind_some, if_true, if_false, and_true, true_and, and_self, qa_f1, qa_f2, zH_found, zH_isBeat, hv]
    · simp (disch := omega) only [qa_b, qa_lit, qa_neg1, qa_qN, nI_add, pk_mul, qa_ix, qa_cl, qa_ltT, qa_ltF, qa_eqT, qa_eqF, qa_nN, qa_Nn, qa_ltN, qa_Nlt, qa_NN, qa_ltNN, qa_sub, qa_dec, qa_dec0, qa_sub0, qa_incN, qa_31, qa_shr, qa_shl, qa_and1, va_up_self, qa_une, pk_us, pk_un, qa_up2, qa_upd2, Option.bind_some, if_true, if_false, and_true, true_and, and_self, qa_f1, qa_f2, zM_found, q2, hv]
  · refine ⟨qN, h, w, ?_, ?_, id0, C⟩
    · simp (disch := omega) only [qa_b, qa_lit, qa_neg1, qa_qN, nI_add, pk_mul, qa_ix, qa_cl, qa_ltT, qa_ltF, qa_eqT, qa_eqF, qa_nN, qa_Nn, qa_ltN, qa_Nlt, qa_NN, qa_ltNN, qa_sub, qa_dec, qa_dec0, qa_sub0, qa_incN, qa_31, qa_shr, qa_shl, qa_and1, va_up_self, qa_une, pk_us, pk_un, qa_up2, qa_upd2, Option.bind_some, if_true, if_false, and_true, true_and, and_self, qa_f1, qa_f2, zH_found, zH_isBeat, s13]
    · simp (disch := omega) only [qa_b, qa_lit, qa_neg1, qa_qN, nI_add, pk_mul, qa_ix, qa_cl, qa_ltT, qa_ltF, qa_eqT, qa_eqF, qa_nN, qa_Nn, qa_ltN, qa_Nlt, qa_NN, qa_ltNN, qa_sub, qa_dec, qa_dec0, qa_sub0, qa_incN, qa_31, qa_shr, qa_shl, qa_and1, va_up_self, qa_une, pk_us, pk_un, qa_up2, qa_upd2, Option.bind_some, if_true, if_false, and_true, true_and, and_self, qa_f1, qa_f2, zM_found, q2]
  rcases qa_arg v3 fn with hv | ⟨x, hx, hx', rfl⟩ | ⟨f, hf, hf', rfl⟩
  · refine ⟨qN, h, w, ?_, ?_, id0, C⟩
    · simp (disch := omega) only [qa_b, qa_lit, qa_neg1, qa_qN, nI_add, pk_mul, qa_ix, qa_cl, qa_ltT, qa_ltF, qa_eqT, qa_eqF, qa_nN, qa_Nn, qa_ltN, qa_Nlt, qa_NN, qa_ltNN, qa_sub, qa_dec, qa_dec0, qa_sub0, qa_incN, qa_31, qa_shr, qa_shl, qa_and1, va_up_self, qa_une, pk_us, pk_un, qa_up2, qa_upd2, Option.bind_some, if_true, if_false, and_true, true_and, and_self, qa_f1, qa_f2, zH_found, zH_isBeat, zH_isFigure, s13, hv]
    · simp (disch := omega) only [qa_b, qa_lit, qa_neg1, qa_qN, nI_add, pk_mul, qa_ix, qa_cl, qa_ltT, qa_ltF, qa_eqT, qa_eqF, qa_nN, qa_Nn, qa_ltN, qa_Nlt, qa_NN, qa_ltNN, qa_sub, qa_dec, qa_dec0, qa_sub0, qa_incN, qa_31, qa_shr, qa_shl, qa_and1, va_up_self, qa_une, pk_us, pk_un, qa_up2, qa_upd2, Option.bind_some, if_true, if_false, and_true, true_and, and_self, qa_f1, qa_f2, zM_found, q1, q2, hv]
  · refine ⟨qN, h, w, ?_, ?_, id0, C⟩
    · simp (disch := omega) only [qa_b, qa_lit, qa_neg1, qa_qN, nI_add, pk_mul, qa_ix, qa_cl, qa_ltT, qa_ltF, qa_eqT, qa_eqF, qa_nN, qa_Nn, qa_ltN, qa_Nlt, qa_NN, qa_ltNN, qa_sub, qa_dec, qa_dec0, qa_sub0, qa_incN, qa_31, qa_shr, qa_shl, qa_and1, va_up_self, qa_une, pk_us, pk_un, qa_up2, qa_upd2, Option.bind_some, if_true, if_false, and_true, true_and, and_self, qa_f1, qa_f2, zH_found, zH_isBeat, zH_isFigure, s13, s4]
    · simp (disch := omega) only [qa_b, qa_lit, qa_neg1, qa_qN, nI_add, pk_mul, qa_ix, qa_cl, qa_ltT, qa_ltF, qa_eqT, qa_eqF, qa_nN, qa_Nn, qa_ltN, qa_Nlt, qa_NN, qa_ltNN, qa_sub, qa_dec, qa_dec0, qa_sub0, qa_incN, qa_31, qa_shr, qa_shl, qa_and1, va_up_self, qa_une, pk_us, pk_un, qa_up2, qa_upd2, Option.bind_some, if_true, if_false, and_true, true_and, and_self, qa_f1, qa_f2, zM_found, q1, q2]
  rcases qo_isSet HA.1.2.2.2.2.1 HA.1.1 s1 v1 with ⟨e1, e2⟩ | ⟨e1, e2, st, hs, rfl⟩
  · have z1 : zH_fewest v1 h = some (qN, h) := by simp (disch := omega) only [↓reduceIte, ↓qa_b, qa_b, qa_lit, qa_neg1, qa_qN, nI_add, pk_mul, qa_ix, qa_cl, qa_ltT, qa_ltF, qa_eqT, qa_eqF, qa_nN, qa_Nn, qa_ltN, qa_Nlt, qa_NN, qa_ltNN, qa_sub, qa_dec, qa_dec0, qa_sub0, qa_incN, qa_31, qa_shr, qa_shl, qa_and1, va_up_self, qa_une, pk_us, pk_un, qa_up2, qa_upd2, Option.bind_some, if_true, if_false, and_true, true_and, and_self, qa_f1, qa_f2, zH_fewest, e1]
    have z2 : zM_fewest v1 w = some (qN, w) := by simp (disch := omega) only [↓reduceIte, ↓qa_b, qa_b, qa_lit, qa_neg1, qa_qN, nI_add, pk_mul, qa_ix, qa_cl, qa_ltT, qa_ltF, qa_eqT, qa_eqF, qa_nN, qa_Nn, qa_ltN, qa_Nlt, qa_NN, qa_ltNN, qa_sub, qa_dec, qa_dec0, qa_sub0, qa_incN, qa_31, qa_shr, qa_shl, qa_and1, va_up_self, qa_une, pk_us, pk_un, qa_up2, qa_upd2, Option.bind_some, if_true, if_false, and_true, true_and, and_self, qa_f1, qa_f2, zM_fewest, e2]
    refine ⟨qN, h, w, ?_, ?_, id0, C⟩
    · simp (disch := omega) only [qa_b, qa_lit, qa_neg1, qa_qN, nI_add, pk_mul, qa_ix, qa_cl, qa_ltT, qa_ltF, qa_eqT, qa_eqF, qa_nN, qa_Nn, qa_ltN, qa_Nlt, qa_NN, qa_ltNN, qa_sub, qa_dec, qa_dec0, qa_sub0, qa_incN, qa_31, qa_shr, qa_shl, qa_and1, va_up_self, qa_une, pk_us, pk_un, qa_up2, qa_upd2, Option.bind_some, if_true, if_false, and_true, true_and, and_self, qa_f1, qa_f2, zH_found, zH_isBeat, zH_isFigure, s13, s4, z1]
    · simp (disch := omega) only [qa_b, qa_lit, qa_neg1, qa_qN, nI_add, pk_mul, qa_ix, qa_cl, qa_ltT, qa_ltF, qa_eqT, qa_eqF, qa_nN, qa_Nn, qa_ltN, qa_Nlt, qa_NN, qa_ltNN, qa_sub, qa_dec, qa_dec0, qa_sub0, qa_incN, qa_31, qa_shr, qa_shl, qa_and1, va_up_self, qa_une, pk_us, pk_un, qa_up2, qa_upd2, Option.bind_some, if_true, if_false, and_true, true_and, and_self, qa_f1, qa_f2, zM_found, q1, q2, z2, qa_Nlt0]
  · obtain ⟨r, pl, h', w', x1, x2, x3, x4, x5⟩ := qo_few H C hs e1 e2
    have h8 := (qs_set_tb pn (by omega) st hs).1
    by_cases hR : r < 1000000
    · rw [if_pos hR] at x1 x2
      obtain ⟨z1, u, z2, z3, z4⟩ := x5 hR
      obtain ⟨j, j1, j2, j3⟩ := z4 t ht f (by omega)
      have z1 := (z1 t ht f (by omega)).1
      rw [← Nat.add_assoc] at z1
      refine ⟨nI (pl t f), h', u, ?_, ?_, ⟨x3.1, fun c hc => by rw [z3 c (by omega), x3.2.1 c hc], fun j j1 j2 => by rw [z3 83 (by omega), x3.2.2 j j1 j2]⟩, x4⟩
      · simp (disch := omega) only [qa_b, qa_lit, qa_neg1, qa_qN, nI_add, pk_mul, qa_ix, qa_cl, qa_ltT, qa_ltF, qa_eqT, qa_eqF, qa_nN, qa_Nn, qa_ltN, qa_Nlt, qa_NN, qa_ltNN, qa_sub, qa_dec, qa_dec0, qa_sub0, qa_incN, qa_31, qa_shr, qa_shl, qa_and1, va_up_self, qa_une, pk_us, pk_un, qa_up2, qa_upd2, Option.bind_some, if_true, if_false, and_true, true_and, and_self, qa_f1, qa_f2, zH_found, zH_isBeat, zH_isFigure, s13, s4, x1, z1]
      · simp (disch := omega) only [qa_b, qa_lit, qa_neg1, qa_qN, nI_add, pk_mul, qa_ix, qa_cl, qa_ltT, qa_ltF, qa_eqT, qa_eqF, qa_nN, qa_Nn, qa_ltN, qa_Nlt, qa_NN, qa_ltNN, qa_sub, qa_dec, qa_dec0, qa_sub0, qa_incN, qa_31, qa_shr, qa_shl, qa_and1, va_up_self, qa_une, pk_us, pk_un, qa_up2, qa_upd2, Option.bind_some, if_true, if_false, and_true, true_and, and_self, qa_f1, qa_f2, zM_found, zM_setOf, q1, q2, x2, z2, j1, j2]
    · rw [if_neg hR] at x1 x2
      refine ⟨qN, h', w', ?_, ?_, x3, x4⟩
      · simp (disch := omega) only [qa_b, qa_lit, qa_neg1, qa_qN, nI_add, pk_mul, qa_ix, qa_cl, qa_ltT, qa_ltF, qa_eqT, qa_eqF, qa_nN, qa_Nn, qa_ltN, qa_Nlt, qa_NN, qa_ltNN, qa_sub, qa_dec, qa_dec0, qa_sub0, qa_incN, qa_31, qa_shr, qa_shl, qa_and1, va_up_self, qa_une, pk_us, pk_un, qa_up2, qa_upd2, Option.bind_some, if_true, if_false, and_true, true_and, and_self, qa_f1, qa_f2, zH_found, zH_isBeat, zH_isFigure, s13, s4, x1]
      · simp (disch := omega) only [qa_b, qa_lit, qa_neg1, qa_qN, nI_add, pk_mul, qa_ix, qa_cl, qa_ltT, qa_ltF, qa_eqT, qa_eqF, qa_nN, qa_Nn, qa_ltN, qa_Nlt, qa_NN, qa_ltNN, qa_sub, qa_dec, qa_dec0, qa_sub0, qa_incN, qa_31, qa_shr, qa_shl, qa_and1, va_up_self, qa_une, pk_us, pk_un, qa_up2, qa_upd2, Option.bind_some, if_true, if_false, and_true, true_and, and_self, qa_f1, qa_f2, zM_found, q1, q2, x2, qa_Nlt0]
end
section
variable {bn : Nat} {u : zHM} {pl : Nat → Nat → Nat}
theorem qm_take32 {t : Nat} (ht : t < 24) (K : Int32 → Int32 → zHM → Option (Int32 × zHM)) (V : Int32) {j : Nat} (hj : j < 720) (e92 : ∀ f, f < 6 → u.1 92 (6 * (720 * t + j) + f) = nI (pl t f)) (e98 : u.1 98 t = nI j) : ∀ (k n f : Nat) (v : zHM), f + k = 6 → k < n → (∀ c, c ≠ 84 → v.1 c = u.1 c) → ∃ v', zM_take_L32 K n V (nI t) (nI f) v = K V (nI (t + 1)) v' ∧ (∀ c, c ≠ 84 → v'.1 c = u.1 c) ∧ (∀ i, f ≤ i → i < 6 → v'.1 84 (200 + 6 * t + i) = nI (pl t i)) ∧ ∀ i, i < 200 + 6 * t + f ∨ 200 + 6 * t + 6 ≤ i → v'.1 84 i = v.1 84 i
  | 0, n + 1, f, v, hf, _, hc => by
    have : f = 6 := by omega
    subst this
    refine ⟨v, ?_, hc, fun i a b => by omega, fun _ _ => rfl⟩
    simp (disch := omega) only [↓reduceIte, zM_take_L32, qa_lit, qa_ltF, nI_add]
  | k + 1, n + 1, f, v, hf, hn, hc => by
    generalize hv : ((va_up v.1 84 (upd (v.1 84) (200 + 6 * t + f) (nI (pl t f))), v.2) : zHM) = v2
    have v0 : ∀ c, c ≠ 84 → v2.1 c = v.1 c := fun c a => by
      subst hv
      simp (disch := omega) only [↓reduceIte, ↓qa_b, qa_b, qa_lit, qa_neg1, qa_qN, nI_add, pk_mul, qa_ix, qa_cl, qa_ltT, qa_ltF, qa_eqT, qa_eqF, qa_nN, qa_Nn, qa_ltN, qa_Nlt, qa_NN, qa_ltNN, qa_sub, qa_dec, qa_dec0, qa_sub0, qa_incN, qa_31, qa_shr, qa_shl, qa_and1, va_up_self, qa_une, pk_us, pk_un, qa_up2, qa_upd2, Option.bind_some, if_true, if_false, and_true, true_and, and_self, qa_f1, qa_f2]
    have v84 : v2.1 84 = upd (v.1 84) (200 + 6 * t + f) (nI (pl t f)) := by
      subst hv
      simp (disch := omega) only [↓reduceIte, ↓qa_b, qa_b, qa_lit, qa_neg1, qa_qN, nI_add, pk_mul, qa_ix, qa_cl, qa_ltT, qa_ltF, qa_eqT, qa_eqF, qa_nN, qa_Nn, qa_ltN, qa_Nlt, qa_NN, qa_ltNN, qa_sub, qa_dec, qa_dec0, qa_sub0, qa_incN, qa_31, qa_shr, qa_shl, qa_and1, va_up_self, qa_une, pk_us, pk_un, qa_up2, qa_upd2, Option.bind_some, if_true, if_false, and_true, true_and, and_self, qa_f1, qa_f2]
    obtain ⟨v', g1, g2, g3, g4⟩ := qm_take32 ht K V hj e92 e98 k n (f + 1) v2 (by omega) (by omega) (fun c a => by rw [v0 c a, hc c a])
    have E92 : v.1 92 (6 * (720 * t + j) + f) = nI (pl t f) := by rw [hc 92 (by omega)]; exact e92 f (by omega)
    have E98 : v.1 98 t = nI j := by rw [hc 98 (by omega)]; exact e98
    refine ⟨v', ?_, g2, fun i a b => ?_, fun i hi => by rw [g4 i (by omega), v84, pk_un (by omega)]⟩
    · rw [← g1, ← hv]
      simp (disch := omega) only [↓reduceIte, ↓qa_b, zM_take_L32, zM_setOf, qa_lit, qa_ltT, qa_ix, qa_cl, E98, pk_mul, nI_add, E92, Option.bind_some]
    · by_cases q : i = f
      · rw [q, g4 _ (by omega), v84, pk_us]
      · exact g3 i (by omega) b
theorem qm_take18 (lbn : bn ≤ 24) (a6 : u.1 84 6 = nI bn) (V : Int32) (H : ∀ t, t < bn → ∀ f, f < 6 → ∃ j, u.1 98 t = nI j ∧ u.1 92 (6 * (720 * t + j) + f) = nI (pl t f) ∧ j < 720) : ∀ (k n t : Nat) (v : zHM), t + k = bn → k < n → (∀ c, c ≠ 84 → v.1 c = u.1 c) → (∀ i, i < 200 ∨ 200 + 6 * t ≤ i → v.1 84 i = u.1 84 i) → (∀ t', t' < t → ∀ f, f < 6 → v.1 84 (200 + 6 * t' + f) = nI (pl t' f)) → ∃ v', zM_take_L18 n V (nI t) v = some (V, v') ∧ (∀ c, c ≠ 84 → v'.1 c = u.1 c) ∧ (∀ i, i < 200 ∨ 200 + 6 * bn ≤ i → v'.1 84 i = u.1 84 i) ∧ ∀ t', t' < bn → ∀ f, f < 6 → v'.1 84 (200 + 6 * t' + f) = nI (pl t' f)
  | 0, n + 1, t, v, htk, _, hc, h2, h3 => by
    have : t = bn := by omega
    subst this
    have b6 : v.1 84 6 = nI t := by rw [h2 6 (by omega)]; exact a6
    refine ⟨v, ?_, hc, h2, h3⟩
    simp (disch := omega) only [↓reduceIte, zM_take_L18, b6, qa_ltF]
  | k + 1, n + 1, t, v, htk, hn, hc, h2, h3 => by
    have b6 : v.1 84 6 = nI bn := by rw [h2 6 (by omega)]; exact a6
    obtain ⟨j, j1, -, j3⟩ := H t (by omega) 0 (by omega)
    obtain ⟨v1, x1, x2, x3, x4⟩ := qm_take32 (u := u) (pl := pl) (t := t) (by omega) (fun v2 v3 w => zM_take_L18 n v2 v3 w) V j3 (fun f hf => by
      obtain ⟨j', j1', j2', j3'⟩ := H t (by omega) f hf
      rw [j1] at j1'
      have : j = j' := by
        have := qa_eqE (a := j) (b := j') (by omega) (by omega)
        exact this.mp j1'
      rw [this]
      exact j2') j1 6 am_N 0 v (by omega) (by decide) hc
    obtain ⟨v', y1, y2, y3, y4⟩ := qm_take18 lbn a6 V H k n (t + 1) v1 (by omega) (by omega) x2 (fun i hi => by rw [x4 i (by omega)]; exact h2 i (by omega)) (fun t' ht' f hf => by
      by_cases q : t' = t
      · rw [q]
        exact x3 f (by omega) hf
      · rw [x4 _ (by omega)]
        exact h3 t' (by omega) f hf)
    refine ⟨v', ?_, y2, y3, y4⟩
    rw [← y1, ← x1]
    simp (disch := omega) only [↓reduceIte, zM_take_L18, b6, qa_ltT, qa_lit]
end
