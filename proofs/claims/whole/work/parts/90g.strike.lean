/-! THE HEART: strike, both -/
section
variable {k P pn fn tn bn pn' fn' tn' bn' tl : Nat} {h : Nat → Nat → Int32} {w : zHM} {hmo : Nat → Nat} {hk : Nat}
theorem qh_findStrike (H : qi_core k P pn fn tn bn pn' fn' tn' bn' tl h w) (hk64 : k ≤ 1000) (hc : h 59 2 = nI 0 ∨ h 59 2 = nI 1 ∧ qk_L (w.1 84) (w.1 86) pn fn bn h) (e2 : ∀ p, p < pn → w.1 84 (10 + 2 * p) = nI (hmo p) ∧ hmo p < 8) (eh : w.1 84 2 = nI hk) (hhk : hk ≤ 6) {st : Nat} (hs : st < 2 ^ pn) (hp : qi_kc pn fn bn (w.1 84) (w.1 86) (qs_or hmo pn) hk h st) : ∃ h', zH_findStrike (nI st) h = some h' ∧ (∀ c, c ≤ 58 → h' c = h c) ∧ (∀ c, 77 ≤ c → c ≤ 79 → h' c = h c) ∧ (h' 59 2 = nI 0 ∨ h' 59 2 = nI 1 ∧ qk_L (w.1 84) (w.1 86) pn fn bn h') ∧ (∀ j, j ≠ st → h' 80 j = h 80 j ∧ h' 81 j = h 81 j ∧ h' 82 j = h 82 j) ∧ h' 80 st = nI 1 ∧ h' 81 st = qk_e1 (qk_B (w.1 84) (w.1 86) pn fn bn st (qs_or hmo pn) hk) ∧ h' 82 st = qk_e2 (qk_B (w.1 84) (w.1 86) pn fn bn st (qs_or hmo pn) hk) := by
  obtain ⟨a0, a1, a4, a6, lpn, lfn, ltn, lbn⟩ := id H.2.1.1
  have h8 := (qs_set_tb pn (by omega) st hs).1
  have h6 : 2 ^ fn ≤ 2 ^ 6 := Nat.pow_le_pow_right (n := 2) (by omega) lfn
  rcases id hp with p0 | ⟨p0, p1, p2⟩
  · generalize hv : va_up (va_up (va_up h 80 (upd (h 80) st (nI 1))) 81 (upd (h 81) st qN)) 82 (upd (h 82) st qN) = v
    have v0 : ∀ c, c ≠ 80 → c ≠ 81 → c ≠ 82 → v c = h c := fun c a b d => by
      subst hv
      simp (disch := omega) only [↓reduceIte, ↓qa_b, qa_b, qa_lit, qa_neg1, qa_qN, nI_add, pk_mul, qa_ix, qa_cl, qa_ltT, qa_ltF, qa_eqT, qa_eqF, qa_nN, qa_Nn, qa_ltN, qa_Nlt, qa_NN, qa_ltNN, qa_sub, qa_dec, qa_dec0, qa_sub0, qa_incN, qa_31, qa_shr, qa_shl, qa_and1, va_up_self, qa_une, pk_us, pk_un, qa_up2, qa_upd2, Option.bind_some, if_true, if_false, and_true, true_and, and_self, qa_f1, qa_f2]
    have v80 : v 80 = upd (h 80) st (nI 1) := by
      subst hv
      simp (disch := omega) only [↓reduceIte, ↓qa_b, qa_b, qa_lit, qa_neg1, qa_qN, nI_add, pk_mul, qa_ix, qa_cl, qa_ltT, qa_ltF, qa_eqT, qa_eqF, qa_nN, qa_Nn, qa_ltN, qa_Nlt, qa_NN, qa_ltNN, qa_sub, qa_dec, qa_dec0, qa_sub0, qa_incN, qa_31, qa_shr, qa_shl, qa_and1, va_up_self, qa_une, pk_us, pk_un, qa_up2, qa_upd2, Option.bind_some, if_true, if_false, and_true, true_and, and_self, qa_f1, qa_f2]
    have v81 : v 81 = upd (h 81) st qN := by
      subst hv
      simp (disch := omega) only [↓reduceIte, ↓qa_b, qa_b, qa_lit, qa_neg1, qa_qN, nI_add, pk_mul, qa_ix, qa_cl, qa_ltT, qa_ltF, qa_eqT, qa_eqF, qa_nN, qa_Nn, qa_ltN, qa_Nlt, qa_NN, qa_ltNN, qa_sub, qa_dec, qa_dec0, qa_sub0, qa_incN, qa_31, qa_shr, qa_shl, qa_and1, va_up_self, qa_une, pk_us, pk_un, qa_up2, qa_upd2, Option.bind_some, if_true, if_false, and_true, true_and, and_self, qa_f1, qa_f2]
    have v82 : v 82 = upd (h 82) st qN := by
      subst hv
      simp (disch := omega) only [↓reduceIte, ↓qa_b, qa_b, qa_lit, qa_neg1, qa_qN, nI_add, pk_mul, qa_ix, qa_cl, qa_ltT, qa_ltF, qa_eqT, qa_eqF, qa_nN, qa_Nn, qa_ltN, qa_Nlt, qa_NN, qa_ltNN, qa_sub, qa_dec, qa_dec0, qa_sub0, qa_incN, qa_31, qa_shr, qa_shl, qa_and1, va_up_self, qa_une, pk_us, pk_un, qa_up2, qa_upd2, Option.bind_some, if_true, if_false, and_true, true_and, and_self, qa_f1, qa_f2]
    have Hv := qi_core_h (h' := v) (fun c hc => v0 c (by omega) (by omega) (by omega)) H
    obtain ⟨⟨x, hru, hx, hakH⟩, hakM⟩ := qk_ask Hv
    obtain ⟨⟨hP3, hP8, hP, htn⟩, HA, -, HS, -⟩ := id Hv
    have hcv : v 59 2 = nI 0 ∨ v 59 2 = nI 1 ∧ qk_L (w.1 84) (w.1 86) pn fn bn v := by
      rw [v0 59 (by omega) (by omega) (by omega)]
      rcases hc with q | ⟨q, qL⟩
      · exact Or.inl q
      · exact Or.inr ⟨q, fun t ht f hf => qk_ok_h ⟨by rw [v0 62 (by omega) (by omega) (by omega)], by rw [v0 63 (by omega) (by omega) (by omega)], by rw [v0 64 (by omega) (by omega) (by omega)]⟩ (qL t ht f hf)⟩
    obtain ⟨h1, el, f1, f2, f3, HL⟩ := qk_learn HA hP8 hx HS hakH hcv
    have HS1 := qi_stg_h (h' := h1) (fun c _ hc => f1 c (by omega)) HS
    obtain ⟨A, y1, y2, y3⟩ := qh_ac HA HS1
    obtain ⟨h2, z1, z2, z3, z4, z5⟩ := qh_strikeL (st := st) HA (by omega) hP8 HS1 HL e2 hs eh hhk y2 y3 (2 ^ fn) am_N 0 h1 (by omega) (Nat.lt_of_le_of_lt h6 (by decide)) (fun _ _ _ _ => rfl) (fun _ _ => ⟨rfl, rfl⟩) (by rw [f2 81 (by omega), v81, pk_us]; rfl) (by rw [f2 82 (by omega), v82, pk_us]; rfl)
    refine ⟨h2, ?_, fun c hc => by rw [z2 c (by omega) (by omega) (by omega), f1 c hc, v0 c (by omega) (by omega) (by omega)], fun c c1 c2 => by rw [z2 c (by omega) (by omega) (by omega), f2 c (by omega), v0 c (by omega) (by omega) (by omega)], Or.inr ⟨by rw [z2 59 (by omega) (by omega) (by omega)]; exact f3, fun t ht f hf => qk_ok_h ⟨by rw [z2 62 (by omega) (by omega) (by omega)], by rw [z2 63 (by omega) (by omega) (by omega)], by rw [z2 64 (by omega) (by omega) (by omega)]⟩ (HL t ht f hf)⟩, fun j hj => ⟨by rw [z2 80 (by omega) (by omega) (by omega), f2 80 (by omega), v80, pk_un hj], by rw [(z3 j hj).1, f2 81 (by omega), v81, pk_un hj], by rw [(z3 j hj).2, f2 82 (by omega), v82, pk_un hj]⟩, by rw [z2 80 (by omega) (by omega) (by omega), f2 80 (by omega), v80, pk_us], z4, z5⟩
    rw [← z1]
    rw [← hv] at hru el
    simp (disch := omega) only [↓reduceIte, ↓qa_b, zH_findStrike, qa_ix, qa_cl, p0, qa_lit, qa_une, qa_neg1, qa_qN, hru, el, y1, Option.bind_some]
  · refine ⟨h, ?_, fun _ _ => rfl, fun _ _ _ => rfl, hc, fun _ _ => ⟨rfl, rfl, rfl⟩, p0, p1, p2⟩
    simp (disch := omega) only [↓reduceIte, zH_findStrike, qa_ix, qa_cl, p0, qa_lit, qa_eqF]
theorem qo_strike (H : qi_core k P pn fn tn bn pn' fn' tn' bn' tl h w) (hk64 : k ≤ 1000) (C : qi_cch pn fn bn h (w.1 84) (w.1 86)) (v1 v2 : Int32) : ∃ r h' w', zH_strike v1 v2 h = some (r, h') ∧ zM_strike v1 v2 w = some (r, w') ∧ qi_scr h w h' w' ∧ qi_cch pn fn bn h' (w.1 84) (w.1 86) := by
  obtain ⟨⟨hP3, hP8, hP, htn⟩, HA, -, HS, -⟩ := id H
  obtain ⟨a0, a1, a4, a6, lpn, lfn, ltn, lbn⟩ := id HA.1
  have s1 := (qi_stg0 HS).1.2.1
  have id0 : qi_scr h w h w := ⟨fun _ _ => rfl, fun _ _ => rfl, fun _ _ _ => rfl⟩
  rcases qo_isSet lpn a0 s1 v1 with ⟨e1, e2⟩ | ⟨e1, e2, st, hs, rfl⟩
  · refine ⟨qN, h, w, ?_, ?_, id0, C⟩
    · simp (disch := omega) only [↓reduceIte, ↓qa_b, qa_b, qa_lit, qa_neg1, qa_qN, nI_add, pk_mul, qa_ix, qa_cl, qa_ltT, qa_ltF, qa_eqT, qa_eqF, qa_nN, qa_Nn, qa_ltN, qa_Nlt, qa_NN, qa_ltNN, qa_sub, qa_dec, qa_dec0, qa_sub0, qa_incN, qa_31, qa_shr, qa_shl, qa_and1, va_up_self, qa_une, pk_us, pk_un, qa_up2, qa_upd2, Option.bind_some, if_true, if_false, and_true, true_and, and_self, qa_f1, qa_f2, zH_strike, e1]
    · simp (disch := omega) only [↓reduceIte, ↓qa_b, qa_b, qa_lit, qa_neg1, qa_qN, nI_add, pk_mul, qa_ix, qa_cl, qa_ltT, qa_ltF, qa_eqT, qa_eqF, qa_nN, qa_Nn, qa_ltN, qa_Nlt, qa_NN, qa_ltNN, qa_sub, qa_dec, qa_dec0, qa_sub0, qa_incN, qa_31, qa_shr, qa_shl, qa_and1, va_up_self, qa_une, pk_us, pk_un, qa_up2, qa_upd2, Option.bind_some, if_true, if_false, and_true, true_and, and_self, qa_f1, qa_f2, zM_strike, e2]
  rcases qa_arg v2 2 with hv | ⟨y, hy, hy', rfl⟩ | ⟨x, hx, hx', rfl⟩
  · refine ⟨qN, h, w, ?_, ?_, id0, C⟩
    · simp (disch := omega) only [qa_b, qa_lit, qa_neg1, qa_qN, nI_add, pk_mul, qa_ix, qa_cl, qa_ltT, qa_ltF, qa_eqT, qa_eqF, qa_nN, qa_Nn, qa_ltN, qa_Nlt, qa_NN, qa_ltNN, qa_sub, qa_dec, qa_dec0, qa_sub0, qa_incN, qa_31, qa_shr, qa_shl, qa_and1, va_up_self, qa_une, pk_us, pk_un, qa_up2, qa_upd2, Option.bind_some, if_true, if_false, and_true, true_and, and_self, qa_f1, qa_f2, zH_strike, e1, hv]
    · simp (disch := omega) only [qa_b, qa_lit, qa_neg1, qa_qN, nI_add, pk_mul, qa_ix, qa_cl, qa_ltT, qa_ltF, qa_eqT, qa_eqF, qa_nN, qa_Nn, qa_ltN, qa_Nlt, qa_NN, qa_ltNN, qa_sub, qa_dec, qa_dec0, qa_sub0, qa_incN, qa_31, qa_shr, qa_shl, qa_and1, va_up_self, qa_une, pk_us, pk_un, qa_up2, qa_upd2, Option.bind_some, if_true, if_false, and_true, true_and, and_self, qa_f1, qa_f2, zM_strike, zM_isIn, e2, hv]
  · refine ⟨qN, h, w, ?_, ?_, id0, C⟩
    · simp (disch := omega) only [qa_b, qa_lit, qa_neg1, qa_qN, nI_add, pk_mul, qa_ix, qa_cl, qa_ltT, qa_ltF, qa_eqT, qa_eqF, qa_nN, qa_Nn, qa_ltN, qa_Nlt, qa_NN, qa_ltNN, qa_sub, qa_dec, qa_dec0, qa_sub0, qa_incN, qa_31, qa_shr, qa_shl, qa_and1, va_up_self, qa_une, pk_us, pk_un, qa_up2, qa_upd2, Option.bind_some, if_true, if_false, and_true, true_and, and_self, qa_f1, qa_f2, zH_strike, e1]
    · simp (disch := omega) only [qa_b, qa_lit, qa_neg1, qa_qN, nI_add, pk_mul, qa_ix, qa_cl, qa_ltT, qa_ltF, qa_eqT, qa_eqF, qa_nN, qa_Nn, qa_ltN, qa_Nlt, qa_NN, qa_ltNN, qa_sub, qa_dec, qa_dec0, qa_sub0, qa_incN, qa_31, qa_shr, qa_shl, qa_and1, va_up_self, qa_une, pk_us, pk_un, qa_up2, qa_upd2, Option.bind_some, if_true, if_false, and_true, true_and, and_self, qa_f1, qa_f2, zM_strike, zM_isIn, e2]
  · obtain ⟨c1, hmo, hk, e2', ⟨eh, hk6⟩, cc⟩ := id C
    obtain ⟨-, hakM⟩ := qk_ask H
    have h8 := (qs_set_tb pn (by omega) st hs).1
    have h6 : 2 ^ fn ≤ 2 ^ 6 := Nat.pow_le_pow_right (n := 2) (by omega) lfn
    obtain ⟨h', x1, x2, x3, x4, x5, x6, x7, x8⟩ := qh_findStrike H hk64 c1 e2' eh hk6 hs (cc st h8).2
    obtain ⟨u, y1, y2, y3⟩ := qm_strikeL (x := x) HA (by omega) hP8 hakM e2' eh hk6 hs (by omega) (2 ^ fn) am_N 0 w (by omega) (Nat.lt_of_le_of_lt h6 (by decide)) ⟨fun _ _ _ _ _ => rfl, fun _ _ _ => rfl⟩
    refine ⟨qk_x x (qk_B (w.1 84) (w.1 86) pn fn bn st (qs_or hmo pn) hk), h', u, ?_, ?_, ⟨fun c hc => x2 c (by omega), fun c hc => y2 c (by omega) (by omega) (by omega) (by omega), y3⟩, ⟨x4, hmo, hk, e2', ⟨eh, hk6⟩, fun j hj => ⟨qi_pc_c (qc_e.rf _ _) lfn lbn ⟨by rw [x3 77 (by omega) (by omega)], by rw [x3 78 (by omega) (by omega)]⟩ (fun i _ _ => by rw [x3 79 (by omega) (by omega)]) (cc j hj).1, ?_⟩⟩⟩
    · have ex : (if x = 0 then h' 81 st else h' 82 st) = qk_x x (qk_B (w.1 84) (w.1 86) pn fn bn st (qs_or hmo pn) hk) := by
        rw [x7, x8]
        cases qk_B (w.1 84) (w.1 86) pn fn bn st (qs_or hmo pn) hk with
        | none => rw [qk_e1n, qk_e2n, qk_xn]; split <;> rfl
        | some q => rw [qk_e1s, qk_e2s, qk_xs]
      rw [← ex]
      by_cases hz : x = 0
      · subst hz
        simp (disch := omega) only [qa_b, qa_lit, qa_neg1, qa_qN, nI_add, pk_mul, qa_ix, qa_cl, qa_ltT, qa_ltF, qa_eqT, qa_eqF, qa_nN, qa_Nn, qa_ltN, qa_Nlt, qa_NN, qa_ltNN, qa_sub, qa_dec, qa_dec0, qa_sub0, qa_incN, qa_31, qa_shr, qa_shl, qa_and1, va_up_self, qa_une, pk_us, pk_un, qa_up2, qa_upd2, Option.bind_some, if_true, if_false, and_true, true_and, and_self, qa_f1, qa_f2, zH_strike, e1, x1]
      · rw [if_neg hz]
        simp (disch := omega) only [qa_b, qa_lit, qa_neg1, qa_qN, nI_add, pk_mul, qa_ix, qa_cl, qa_ltT, qa_ltF, qa_eqT, qa_eqF, qa_nN, qa_Nn, qa_ltN, qa_Nlt, qa_NN, qa_ltNN, qa_sub, qa_dec, qa_dec0, qa_sub0, qa_incN, qa_31, qa_shr, qa_shl, qa_and1, va_up_self, qa_une, pk_us, pk_un, qa_up2, qa_upd2, Option.bind_some, if_true, if_false, and_true, true_and, and_self, qa_f1, qa_f2, zH_strike, e1, x1]
    · rw [← y1]
      simp (disch := omega) only [qa_b, qa_lit, qa_neg1, qa_qN, nI_add, pk_mul, qa_ix, qa_cl, qa_ltT, qa_ltF, qa_eqT, qa_eqF, qa_nN, qa_Nn, qa_ltN, qa_Nlt, qa_NN, qa_ltNN, qa_sub, qa_dec, qa_dec0, qa_sub0, qa_incN, qa_31, qa_shr, qa_shl, qa_and1, va_up_self, qa_une, pk_us, pk_un, qa_up2, qa_upd2, Option.bind_some, if_true, if_false, and_true, true_and, and_self, qa_f1, qa_f2, zM_strike, zM_isIn, e2]
      rfl
    · by_cases q : j = st
      · rw [q]
        exact Or.inr ⟨x6, x7, x8⟩
      · exact qi_kc_c (qc_e.rf _ _) lfn lbn (x5 j q) (cc j hj).2
end
