/-! THE HEART: a clause is played -/
section
variable {L P pn fn tn bn : Nat} {h : Nat → Nat → Int32} {w : zHM}
/-- what a clause comes to -/
def qp_res (L P pn fn tn : Nat) (h : Nat → Nat → Int32) (w : zHM) (X : Option (Int32 × (Nat → Nat → Int32))) (M : Option (Int32 × zHM)) : Prop :=
  ∃ r h' a' bn2, X = some (r, h') ∧ M = some (r, (va_up w.1 84 a', w.2)) ∧ (r = nI 0 ∨ r = nI 1) ∧ qi_a (L + 2) P pn fn tn bn2 a' ∧ qi_stg 0 P pn fn tn bn2 h' a' ∧ (∀ c, 10 ≤ c → h' c = h c)
theorem qp_no (HA : qi_a L P pn fn tn bn (w.1 84)) (HS : qi_stg 0 P pn fn tn bn h (w.1 84)) {X : Option (Int32 × (Nat → Nat → Int32))} {M : Option (Int32 × zHM)} {r : Int32} (hr : r = nI 0 ∨ r = nI 1) (hX : X = some (r, h)) (hM : M = some (r, w)) : qp_res L P pn fn tn h w X M := by
  have eq : va_up w.1 84 (w.1 84) = w.1 := by funext j; unfold va_up; split <;> simp_all
  exact ⟨r, h, w.1 84, bn, hX, by rw [eq]; exact hM, hr, qi_a_k (by omega) HA, HS, fun _ _ => rfl⟩
theorem qp_f1 {α β : Type} (w : α × β) : (w.1, w.2) = w := rfl
theorem qp_plays (hP3 : 3 ≤ P) (hP8 : P ≤ 8) (hL : L < 900000) (hP : w.1 83 2 = nI P) (HA : qi_a L P pn fn tn bn (w.1 84)) (HS : qi_stg 0 P pn fn tn bn h (w.1 84)) {x s : Nat} {c1 c2 : Int32} (hx : x + 2 < 3160) (hs : s ≤ 7) (t0 : w.1 86 x = nI s) (t1 : 3 ≤ s → s ≠ 7 → ∃ y, y ≤ 5 ∧ w.1 86 (x + 1) = nI y ∧ c1 = nI y) (t2 : s = 3 ∨ s = 5 ∨ s = 6 → ∃ y, y ≤ 7 ∧ w.1 86 (x + 2) = nI y ∧ c2 = nI y) : qp_res L P pn fn tn h w (zG_plays (nI (s + 3)) c1 c2 h) (zM_isPlayed (nI x) w) := by
  obtain ⟨⟨a0, a1, a4, a6, lpn, lfn, ltn, lbn⟩, A2, A3, A5, Ap, Af, At⟩ := id HA
  obtain ⟨⟨s0, s1, s4, s9, s10, s11, s12, s13⟩, Sp, Sf, Sg, St, Su, Sv⟩ := qi_stg0 HS
  rcases (show s < 3 ∨ s = 7 ∨ (3 ≤ s ∧ s ≠ 7) by omega) with hs3 | rfl | hs3
  · refine qp_no HA HS (Or.inr rfl) (r := nI 1) ?_ ?_
    · simp (disch := omega) only [↓reduceIte, ↓qa_b, qa_b, qa_lit, qa_neg1, qa_qN, nI_add, pk_mul, qa_ix, qa_cl, qa_ltT, qa_ltF, qa_eqT, qa_eqF, qa_nN, qa_Nn, qa_ltN, qa_Nlt, qa_NN, qa_ltNN, qa_sub, qa_dec, qa_dec0, qa_sub0, qa_incN, qa_31, qa_shr, qa_shl, qa_and1, va_up_self, qa_une, pk_us, pk_un, qa_up2, qa_upd2, Option.bind_some, if_true, if_false, and_true, true_and, and_self, qa_f1, qa_f2, zG_plays]
    · simp (disch := omega) only [↓reduceIte, ↓qa_b, qa_b, qa_lit, qa_neg1, qa_qN, nI_add, pk_mul, qa_ix, qa_cl, qa_ltT, qa_ltF, qa_eqT, qa_eqF, qa_nN, qa_Nn, qa_ltN, qa_Nlt, qa_NN, qa_ltNN, qa_sub, qa_dec, qa_dec0, qa_sub0, qa_incN, qa_31, qa_shr, qa_shl, qa_and1, va_up_self, qa_une, pk_us, pk_un, qa_up2, qa_upd2, Option.bind_some, if_true, if_false, and_true, true_and, and_self, qa_f1, qa_f2, zM_isPlayed, t0]
  · obtain ⟨r, h', a', bn2, e1, e2, hr, b1, b2, b3⟩ := qp_beat HA HS
    refine ⟨r, h', a', bn2, ?_, ?_, hr, qi_a_k (by omega) b1, b2, b3⟩
    · rcases hr with rfl | rfl
      · simp (disch := omega) only [↓reduceIte, ↓qa_b, qa_b, qa_lit, qa_neg1, qa_qN, nI_add, pk_mul, qa_ix, qa_cl, qa_ltT, qa_ltF, qa_eqT, qa_eqF, qa_nN, qa_Nn, qa_ltN, qa_Nlt, qa_NN, qa_ltNN, qa_sub, qa_dec, qa_dec0, qa_sub0, qa_incN, qa_31, qa_shr, qa_shl, qa_and1, va_up_self, qa_une, pk_us, pk_un, qa_up2, qa_upd2, Option.bind_some, if_true, if_false, and_true, true_and, and_self, qa_f1, qa_f2, zG_plays, e1]
      · simp (disch := omega) only [↓reduceIte, ↓qa_b, qa_b, qa_lit, qa_neg1, qa_qN, nI_add, pk_mul, qa_ix, qa_cl, qa_ltT, qa_ltF, qa_eqT, qa_eqF, qa_nN, qa_Nn, qa_ltN, qa_Nlt, qa_NN, qa_ltNN, qa_sub, qa_dec, qa_dec0, qa_sub0, qa_incN, qa_31, qa_shr, qa_shl, qa_and1, va_up_self, qa_une, pk_us, pk_un, qa_up2, qa_upd2, Option.bind_some, if_true, if_false, and_true, true_and, and_self, qa_f1, qa_f2, zG_plays, e1]
    · rcases hr with rfl | rfl
      · simp (disch := omega) only [↓reduceIte, ↓qa_b, qa_b, qa_lit, qa_neg1, qa_qN, nI_add, pk_mul, qa_ix, qa_cl, qa_ltT, qa_ltF, qa_eqT, qa_eqF, qa_nN, qa_Nn, qa_ltN, qa_Nlt, qa_NN, qa_ltNN, qa_sub, qa_dec, qa_dec0, qa_sub0, qa_incN, qa_31, qa_shr, qa_shl, qa_and1, va_up_self, qa_une, pk_us, pk_un, qa_up2, qa_upd2, Option.bind_some, if_true, if_false, and_true, true_and, and_self, qa_f1, qa_f2, zM_isPlayed, t0, e2]
      · simp (disch := omega) only [↓reduceIte, ↓qa_b, qa_b, qa_lit, qa_neg1, qa_qN, nI_add, pk_mul, qa_ix, qa_cl, qa_ltT, qa_ltF, qa_eqT, qa_eqF, qa_nN, qa_Nn, qa_ltN, qa_Nlt, qa_NN, qa_ltNN, qa_sub, qa_dec, qa_dec0, qa_sub0, qa_incN, qa_31, qa_shr, qa_shl, qa_and1, va_up_self, qa_une, pk_us, pk_un, qa_up2, qa_upd2, Option.bind_some, if_true, if_false, and_true, true_and, and_self, qa_f1, qa_f2, zM_isPlayed, t0, e2]
  obtain ⟨y, hy, ty, rfl⟩ := t1 hs3.1 hs3.2
  have qf := qm_figure a1 lfn (nI y)
  by_cases hyf : y < fn
  · have hst : h 7 y = w.1 84 (40 + y) := (Sf y hyf).2.2.2
    rcases (show s = 4 ∨ s = 3 ∨ s = 5 ∨ s = 6 by omega) with rfl | hs4
    · -- exit
      rcases (Af y hyf).2.2.2 with hq | ⟨z, hz, hq⟩
      · refine qp_no HA HS (Or.inl rfl) (r := nI 0) ?_ ?_
        · simp (disch := omega) only [↓reduceIte, ↓qa_b, qa_b, qa_lit, qa_neg1, qa_qN, nI_add, pk_mul, qa_ix, qa_cl, qa_ltT, qa_ltF, qa_eqT, qa_eqF, qa_nN, qa_Nn, qa_ltN, qa_Nlt, qa_NN, qa_ltNN, qa_sub, qa_dec, qa_dec0, qa_sub0, qa_incN, qa_31, qa_shr, qa_shl, qa_and1, va_up_self, qa_une, pk_us, pk_un, qa_up2, qa_upd2, Option.bind_some, if_true, if_false, and_true, true_and, and_self, qa_f1, qa_f2, zG_plays, zG_isNowOn, zG_isThere, s4, hst, hq]
        · simp (disch := omega) only [↓reduceIte, ↓qa_b, qa_b, qa_lit, qa_neg1, qa_qN, nI_add, pk_mul, qa_ix, qa_cl, qa_ltT, qa_ltF, qa_eqT, qa_eqF, qa_nN, qa_Nn, qa_ltN, qa_Nlt, qa_NN, qa_ltNN, qa_sub, qa_dec, qa_dec0, qa_sub0, qa_incN, qa_31, qa_shr, qa_shl, qa_and1, va_up_self, qa_une, pk_us, pk_un, qa_up2, qa_upd2, Option.bind_some, if_true, if_false, and_true, true_and, and_self, qa_f1, qa_f2, zM_isPlayed, zM_isOn, t0, ty, qf, hq, show (qN < nI 0) = True from eq_true (by decide)]
      · obtain ⟨c1, c2⟩ := qp_mv HA HS hyf (v := qN) (Or.inl rfl)
        obtain ⟨d1, d2⟩ := qp_ln c1 c2 (by omega) hyf
        refine ⟨nI 1, _, _, bn, ?_, ?_, Or.inr rfl, qi_a_k (by omega) d1, d2, fun c hc => ?_⟩
        · simp (disch := omega) only [↓reduceIte, ↓qa_b, qa_b, qa_lit, qa_neg1, qa_qN, nI_add, pk_mul, qa_ix, qa_cl, qa_ltT, qa_ltF, qa_eqT, qa_eqF, qa_nN, qa_Nn, qa_ltN, qa_Nlt, qa_NN, qa_ltNN, qa_sub, qa_dec, qa_dec0, qa_sub0, qa_incN, qa_31, qa_shr, qa_shl, qa_and1, va_up_self, qa_une, pk_us, pk_un, qa_up2, qa_upd2, Option.bind_some, if_true, if_false, and_true, true_and, and_self, qa_f1, qa_f2, zG_plays, zG_isNowOn, zG_isThere, zG_leaves, s4, hst, hq]
        · simp (disch := omega) only [↓reduceIte, ↓qa_b, qa_b, qa_lit, qa_neg1, qa_qN, nI_add, pk_mul, qa_ix, qa_cl, qa_ltT, qa_ltF, qa_eqT, qa_eqF, qa_nN, qa_Nn, qa_ltN, qa_Nlt, qa_NN, qa_ltNN, qa_sub, qa_dec, qa_dec0, qa_sub0, qa_incN, qa_31, qa_shr, qa_shl, qa_and1, va_up_self, qa_une, pk_us, pk_un, qa_up2, qa_upd2, Option.bind_some, if_true, if_false, and_true, true_and, and_self, qa_f1, qa_f2, zM_isPlayed, zM_isPlayed_J226, zM_isOn, t0, ty, qf, hq]
        · simp (disch := omega) only [↓reduceIte, ↓qa_b, qa_b, qa_lit, qa_neg1, qa_qN, nI_add, pk_mul, qa_ix, qa_cl, qa_ltT, qa_ltF, qa_eqT, qa_eqF, qa_nN, qa_Nn, qa_ltN, qa_Nlt, qa_NN, qa_ltNN, qa_sub, qa_dec, qa_dec0, qa_sub0, qa_incN, qa_31, qa_shr, qa_shl, qa_and1, va_up_self, qa_une, pk_us, pk_un, qa_up2, qa_upd2, Option.bind_some, if_true, if_false, and_true, true_and, and_self, qa_f1, qa_f2]
    obtain ⟨v, hv, tv, rfl⟩ := t2 (by omega)
    have qg := qm_figure a1 lfn (nI v)
    have qpl := qm_place hP hP8 (nI v)
    rcases hs4 with rfl | rfl | rfl
    · -- enter
      rcases (Af y hyf).2.2.2 with hq | ⟨z, hz, hq⟩
      · by_cases hvP : v < P
        · obtain ⟨c1, c2⟩ := qp_mv HA HS hyf (v := nI v) (Or.inr ⟨v, hvP, rfl⟩)
          obtain ⟨d1, d2⟩ := qp_ln c1 c2 (by omega) hyf
          refine ⟨nI 1, _, _, bn, ?_, ?_, Or.inr rfl, qi_a_k (by omega) d1, d2, fun c hc => ?_⟩
          · simp (disch := omega) only [↓reduceIte, ↓qa_b, qa_b, qa_lit, qa_neg1, qa_qN, nI_add, pk_mul, qa_ix, qa_cl, qa_ltT, qa_ltF, qa_eqT, qa_eqF, qa_nN, qa_Nn, qa_ltN, qa_Nlt, qa_NN, qa_ltNN, qa_sub, qa_dec, qa_dec0, qa_sub0, qa_incN, qa_31, qa_shr, qa_shl, qa_and1, va_up_self, qa_une, pk_us, pk_un, qa_up2, qa_upd2, Option.bind_some, if_true, if_false, and_true, true_and, and_self, qa_f1, qa_f2, zG_plays, zG_isThere, zG_comesTo, s4, s0, hst, hq]
          · simp (disch := omega) only [↓reduceIte, ↓qa_b, qa_b, qa_lit, qa_neg1, qa_qN, nI_add, pk_mul, qa_ix, qa_cl, qa_ltT, qa_ltF, qa_eqT, qa_eqF, qa_nN, qa_Nn, qa_ltN, qa_Nlt, qa_NN, qa_ltNN, qa_sub, qa_dec, qa_dec0, qa_sub0, qa_incN, qa_31, qa_shr, qa_shl, qa_and1, va_up_self, qa_une, pk_us, pk_un, qa_up2, qa_upd2, Option.bind_some, if_true, if_false, and_true, true_and, and_self, qa_f1, qa_f2, zM_isPlayed, zM_isPlayed_J226, zM_isOn, t0, ty, tv, qf, qpl, hq, show (qN < nI 0) = True from eq_true (by decide)]
          · simp (disch := omega) only [↓reduceIte, ↓qa_b, qa_b, qa_lit, qa_neg1, qa_qN, nI_add, pk_mul, qa_ix, qa_cl, qa_ltT, qa_ltF, qa_eqT, qa_eqF, qa_nN, qa_Nn, qa_ltN, qa_Nlt, qa_NN, qa_ltNN, qa_sub, qa_dec, qa_dec0, qa_sub0, qa_incN, qa_31, qa_shr, qa_shl, qa_and1, va_up_self, qa_une, pk_us, pk_un, qa_up2, qa_upd2, Option.bind_some, if_true, if_false, and_true, true_and, and_self, qa_f1, qa_f2]
        · refine qp_no HA HS (Or.inl rfl) (r := nI 0) ?_ ?_
          · simp (disch := omega) only [↓reduceIte, ↓qa_b, qa_b, qa_lit, qa_neg1, qa_qN, nI_add, pk_mul, qa_ix, qa_cl, qa_ltT, qa_ltF, qa_eqT, qa_eqF, qa_nN, qa_Nn, qa_ltN, qa_Nlt, qa_NN, qa_ltNN, qa_sub, qa_dec, qa_dec0, qa_sub0, qa_incN, qa_31, qa_shr, qa_shl, qa_and1, va_up_self, qa_une, pk_us, pk_un, qa_up2, qa_upd2, Option.bind_some, if_true, if_false, and_true, true_and, and_self, qa_f1, qa_f2, zG_plays, zG_isThere, zG_comesTo, s4, s0, hst, hq]
          · simp (disch := omega) only [↓reduceIte, ↓qa_b, qa_b, qa_lit, qa_neg1, qa_qN, nI_add, pk_mul, qa_ix, qa_cl, qa_ltT, qa_ltF, qa_eqT, qa_eqF, qa_nN, qa_Nn, qa_ltN, qa_Nlt, qa_NN, qa_ltNN, qa_sub, qa_dec, qa_dec0, qa_sub0, qa_incN, qa_31, qa_shr, qa_shl, qa_and1, va_up_self, qa_une, pk_us, pk_un, qa_up2, qa_upd2, Option.bind_some, if_true, if_false, and_true, true_and, and_self, qa_f1, qa_f2, zM_isPlayed, zM_isOn, t0, ty, tv, qf, qpl, hq, show (qN < nI 0) = True from eq_true (by decide)]
      · refine qp_no HA HS (Or.inl rfl) (r := nI 0) ?_ ?_
        · simp (disch := omega) only [↓reduceIte, ↓qa_b, qa_b, qa_lit, qa_neg1, qa_qN, nI_add, pk_mul, qa_ix, qa_cl, qa_ltT, qa_ltF, qa_eqT, qa_eqF, qa_nN, qa_Nn, qa_ltN, qa_Nlt, qa_NN, qa_ltNN, qa_sub, qa_dec, qa_dec0, qa_sub0, qa_incN, qa_31, qa_shr, qa_shl, qa_and1, va_up_self, qa_une, pk_us, pk_un, qa_up2, qa_upd2, Option.bind_some, if_true, if_false, and_true, true_and, and_self, qa_f1, qa_f2, zG_plays, zG_isThere, zG_comesTo, s4, s0, hst, hq]
        · simp (disch := omega) only [↓reduceIte, ↓qa_b, qa_b, qa_lit, qa_neg1, qa_qN, nI_add, pk_mul, qa_ix, qa_cl, qa_ltT, qa_ltF, qa_eqT, qa_eqF, qa_nN, qa_Nn, qa_ltN, qa_Nlt, qa_NN, qa_ltNN, qa_sub, qa_dec, qa_dec0, qa_sub0, qa_incN, qa_31, qa_shr, qa_shl, qa_and1, va_up_self, qa_une, pk_us, pk_un, qa_up2, qa_upd2, Option.bind_some, if_true, if_false, and_true, true_and, and_self, qa_f1, qa_f2, zM_isPlayed, zM_isOn, t0, ty, tv, qf, qpl, hq]
    · -- go
      rcases (Af y hyf).2.2.2 with hq | ⟨z, hz, hq⟩
      · refine qp_no HA HS (Or.inl rfl) (r := nI 0) ?_ ?_
        · simp (disch := omega) only [↓reduceIte, ↓qa_b, qa_b, qa_lit, qa_neg1, qa_qN, nI_add, pk_mul, qa_ix, qa_cl, qa_ltT, qa_ltF, qa_eqT, qa_eqF, qa_nN, qa_Nn, qa_ltN, qa_Nlt, qa_NN, qa_ltNN, qa_sub, qa_dec, qa_dec0, qa_sub0, qa_incN, qa_31, qa_shr, qa_shl, qa_and1, va_up_self, qa_une, pk_us, pk_un, qa_up2, qa_upd2, Option.bind_some, if_true, if_false, and_true, true_and, and_self, qa_f1, qa_f2, zG_plays, zG_isNowOn, zG_isThere, zG_comesTo, s4, s0, hst, hq]
        · simp (disch := omega) only [↓reduceIte, ↓qa_b, qa_b, qa_lit, qa_neg1, qa_qN, nI_add, pk_mul, qa_ix, qa_cl, qa_ltT, qa_ltF, qa_eqT, qa_eqF, qa_nN, qa_Nn, qa_ltN, qa_Nlt, qa_NN, qa_ltNN, qa_sub, qa_dec, qa_dec0, qa_sub0, qa_incN, qa_31, qa_shr, qa_shl, qa_and1, va_up_self, qa_une, pk_us, pk_un, qa_up2, qa_upd2, Option.bind_some, if_true, if_false, and_true, true_and, and_self, qa_f1, qa_f2, zM_isPlayed, zM_isOn, t0, ty, tv, qf, qpl, hq, show (qN < nI 0) = True from eq_true (by decide)]
      · by_cases hvP : v < P
        · obtain ⟨c1, c2⟩ := qp_mv HA HS hyf (v := nI v) (Or.inr ⟨v, hvP, rfl⟩)
          obtain ⟨d1, d2⟩ := qp_ln c1 c2 (by omega) hyf
          refine ⟨nI 1, _, _, bn, ?_, ?_, Or.inr rfl, qi_a_k (by omega) d1, d2, fun c hc => ?_⟩
          · simp (disch := omega) only [↓reduceIte, ↓qa_b, qa_b, qa_lit, qa_neg1, qa_qN, nI_add, pk_mul, qa_ix, qa_cl, qa_ltT, qa_ltF, qa_eqT, qa_eqF, qa_nN, qa_Nn, qa_ltN, qa_Nlt, qa_NN, qa_ltNN, qa_sub, qa_dec, qa_dec0, qa_sub0, qa_incN, qa_31, qa_shr, qa_shl, qa_and1, va_up_self, qa_une, pk_us, pk_un, qa_up2, qa_upd2, Option.bind_some, if_true, if_false, and_true, true_and, and_self, qa_f1, qa_f2, zG_plays, zG_isNowOn, zG_isThere, zG_comesTo, s4, s0, hst, hq]
          · simp (disch := omega) only [↓reduceIte, ↓qa_b, qa_b, qa_lit, qa_neg1, qa_qN, nI_add, pk_mul, qa_ix, qa_cl, qa_ltT, qa_ltF, qa_eqT, qa_eqF, qa_nN, qa_Nn, qa_ltN, qa_Nlt, qa_NN, qa_ltNN, qa_sub, qa_dec, qa_dec0, qa_sub0, qa_incN, qa_31, qa_shr, qa_shl, qa_and1, va_up_self, qa_une, pk_us, pk_un, qa_up2, qa_upd2, Option.bind_some, if_true, if_false, and_true, true_and, and_self, qa_f1, qa_f2, zM_isPlayed, zM_isPlayed_J226, zM_isOn, t0, ty, tv, qf, qpl, hq]
          · simp (disch := omega) only [↓reduceIte, ↓qa_b, qa_b, qa_lit, qa_neg1, qa_qN, nI_add, pk_mul, qa_ix, qa_cl, qa_ltT, qa_ltF, qa_eqT, qa_eqF, qa_nN, qa_Nn, qa_ltN, qa_Nlt, qa_NN, qa_ltNN, qa_sub, qa_dec, qa_dec0, qa_sub0, qa_incN, qa_31, qa_shr, qa_shl, qa_and1, va_up_self, qa_une, pk_us, pk_un, qa_up2, qa_upd2, Option.bind_some, if_true, if_false, and_true, true_and, and_self, qa_f1, qa_f2]
        · refine qp_no HA HS (Or.inl rfl) (r := nI 0) ?_ ?_
          · simp (disch := omega) only [↓reduceIte, ↓qa_b, qa_b, qa_lit, qa_neg1, qa_qN, nI_add, pk_mul, qa_ix, qa_cl, qa_ltT, qa_ltF, qa_eqT, qa_eqF, qa_nN, qa_Nn, qa_ltN, qa_Nlt, qa_NN, qa_ltNN, qa_sub, qa_dec, qa_dec0, qa_sub0, qa_incN, qa_31, qa_shr, qa_shl, qa_and1, va_up_self, qa_une, pk_us, pk_un, qa_up2, qa_upd2, Option.bind_some, if_true, if_false, and_true, true_and, and_self, qa_f1, qa_f2, zG_plays, zG_isNowOn, zG_isThere, zG_comesTo, s4, s0, hst, hq]
          · simp (disch := omega) only [↓reduceIte, ↓qa_b, qa_b, qa_lit, qa_neg1, qa_qN, nI_add, pk_mul, qa_ix, qa_cl, qa_ltT, qa_ltF, qa_eqT, qa_eqF, qa_nN, qa_Nn, qa_ltN, qa_Nlt, qa_NN, qa_ltNN, qa_sub, qa_dec, qa_dec0, qa_sub0, qa_incN, qa_31, qa_shr, qa_shl, qa_and1, va_up_self, qa_une, pk_us, pk_un, qa_up2, qa_upd2, Option.bind_some, if_true, if_false, and_true, true_and, and_self, qa_f1, qa_f2, zM_isPlayed, zM_isOn, t0, ty, tv, qf, qpl, hq]
    · -- hit
      by_cases hyv : y = v
      · subst hyv
        refine qp_no HA HS (Or.inl rfl) (r := nI 0) ?_ ?_
        · simp (disch := omega) only [↓reduceIte, ↓qa_b, qa_b, qa_lit, qa_neg1, qa_qN, nI_add, pk_mul, qa_ix, qa_cl, qa_ltT, qa_ltF, qa_eqT, qa_eqF, qa_nN, qa_Nn, qa_ltN, qa_Nlt, qa_NN, qa_ltNN, qa_sub, qa_dec, qa_dec0, qa_sub0, qa_incN, qa_31, qa_shr, qa_shl, qa_and1, va_up_self, qa_une, pk_us, pk_un, qa_up2, qa_upd2, Option.bind_some, if_true, if_false, and_true, true_and, and_self, qa_f1, qa_f2, zG_plays]
        · simp (disch := omega) only [↓reduceIte, ↓qa_b, qa_b, qa_lit, qa_neg1, qa_qN, nI_add, pk_mul, qa_ix, qa_cl, qa_ltT, qa_ltF, qa_eqT, qa_eqF, qa_nN, qa_Nn, qa_ltN, qa_Nlt, qa_NN, qa_ltNN, qa_sub, qa_dec, qa_dec0, qa_sub0, qa_incN, qa_31, qa_shr, qa_shl, qa_and1, va_up_self, qa_une, pk_us, pk_un, qa_up2, qa_upd2, Option.bind_some, if_true, if_false, and_true, true_and, and_self, qa_f1, qa_f2, zM_isPlayed, t0, ty, tv]
      rcases (Af y hyf).2.2.2 with hq | ⟨z, hz, hq⟩
      · refine qp_no HA HS (Or.inl rfl) (r := nI 0) ?_ ?_
        · simp (disch := omega) only [↓reduceIte, ↓qa_b, qa_b, qa_lit, qa_neg1, qa_qN, nI_add, pk_mul, qa_ix, qa_cl, qa_ltT, qa_ltF, qa_eqT, qa_eqF, qa_nN, qa_Nn, qa_ltN, qa_Nlt, qa_NN, qa_ltNN, qa_sub, qa_dec, qa_dec0, qa_sub0, qa_incN, qa_31, qa_shr, qa_shl, qa_and1, va_up_self, qa_une, pk_us, pk_un, qa_up2, qa_upd2, Option.bind_some, if_true, if_false, and_true, true_and, and_self, qa_f1, qa_f2, zG_plays, zG_isNowOn, zG_isThere, s4, hst, hq]
        · simp (disch := omega) only [↓reduceIte, ↓qa_b, qa_b, qa_lit, qa_neg1, qa_qN, nI_add, pk_mul, qa_ix, qa_cl, qa_ltT, qa_ltF, qa_eqT, qa_eqF, qa_nN, qa_Nn, qa_ltN, qa_Nlt, qa_NN, qa_ltNN, qa_sub, qa_dec, qa_dec0, qa_sub0, qa_incN, qa_31, qa_shr, qa_shl, qa_and1, va_up_self, qa_une, pk_us, pk_un, qa_up2, qa_upd2, Option.bind_some, if_true, if_false, and_true, true_and, and_self, qa_f1, qa_f2, zM_isPlayed, zM_isOn, t0, ty, tv, qf, hq, show (qN < nI 0) = True from eq_true (by decide)]
      by_cases hvf : v < fn
      · have hsv : h 7 v = w.1 84 (40 + v) := (Sf v hvf).2.2.2
        rcases (Af v hvf).2.2.2 with hr | ⟨z2, hz2, hr⟩
        · refine qp_no HA HS (Or.inl rfl) (r := nI 0) ?_ ?_
          · simp (disch := omega) only [↓reduceIte, ↓qa_b, qa_b, qa_lit, qa_neg1, qa_qN, nI_add, pk_mul, qa_ix, qa_cl, qa_ltT, qa_ltF, qa_eqT, qa_eqF, qa_nN, qa_Nn, qa_ltN, qa_Nlt, qa_NN, qa_ltNN, qa_sub, qa_dec, qa_dec0, qa_sub0, qa_incN, qa_31, qa_shr, qa_shl, qa_and1, va_up_self, qa_une, pk_us, pk_un, qa_up2, qa_upd2, Option.bind_some, if_true, if_false, and_true, true_and, and_self, qa_f1, qa_f2, zG_plays, zG_isNowOn, zG_isThere, s4, hst, hq, hsv, hr]
          · simp (disch := omega) only [↓reduceIte, ↓qa_b, qa_b, qa_lit, qa_neg1, qa_qN, nI_add, pk_mul, qa_ix, qa_cl, qa_ltT, qa_ltF, qa_eqT, qa_eqF, qa_nN, qa_Nn, qa_ltN, qa_Nlt, qa_NN, qa_ltNN, qa_sub, qa_dec, qa_dec0, qa_sub0, qa_incN, qa_31, qa_shr, qa_shl, qa_and1, va_up_self, qa_une, pk_us, pk_un, qa_up2, qa_upd2, Option.bind_some, if_true, if_false, and_true, true_and, and_self, qa_f1, qa_f2, zM_isPlayed, zM_isOn, t0, ty, tv, qf, qg, hq, hr, show (qN < nI 0) = True from eq_true (by decide)]
        · have near : ∀ z, z < 8 → ∀ z2, z2 < 8 → (nI 1 < zD_abs (nI z - nI z2) ↔ zM_isIn (nI z - nI z2) qN (nI 1) = nI 0) := by decide +kernel
          have nr := near z (by omega) z2 (by omega)
          by_cases hn : zM_isIn (nI z - nI z2) qN (nI 1) = nI 0
          · have hn2 : (nI 1 < zD_abs (nI z - nI z2)) = True := eq_true (nr.mpr hn)
            refine qp_no HA HS (Or.inl rfl) (r := nI 0) ?_ ?_
            · simp (disch := omega) only [↓reduceIte, ↓qa_b, zG_plays, zG_isNowOn, zG_isThere, zG_hits, qa_b, qa_lit, qa_ix, qa_cl, qa_ltT, qa_ltF, qa_eqT, qa_eqF, qa_nN, qa_qN, qa_neg1, Option.bind_some, if_true, if_false, nI_add, s4, hst, hq, hsv, hr, hn2]
            · simp (disch := omega) only [↓reduceIte, ↓qa_b, zM_isPlayed, zM_isOn, qa_b, qa_lit, qa_ix, qa_cl, qa_ltT, qa_ltF, qa_eqT, qa_eqF, qa_qN, qa_neg1, Option.bind_some, if_true, if_false, nI_add, t0, ty, tv, qf, qg, hq, hr, hn]
          · have hn2 : (nI 1 < zD_abs (nI z - nI z2)) = False := eq_false (fun q => hn (nr.mp q))
            have hn3 : (zM_isIn (nI z - nI z2) qN (nI 1) = nI 0) = False := eq_false hn
            obtain ⟨c1, c2⟩ := qp_ln HA HS (by omega) hvf
            obtain ⟨d1, d2⟩ := qp_ln c1 c2 (by omega) hyf
            have c3 : qi_a (L + 1) P pn fn tn bn (upd (w.1 84) (34 + y) (w.1 84 (34 + y) + nI 1)) := (qp_ln HA HS (by omega) hyf).1
            have sw : ∀ (f : Nat → Int32) (p q : Int32), upd (upd f y p) v q = upd (upd f v q) y p := fun f p q => fa_upd_swap f hyv p q
            refine ⟨nI 1, va_up h 6 (upd (upd (h 6) v (h 6 v + nI 1)) y (h 6 y + nI 1)), upd (upd (w.1 84) (34 + v) (w.1 84 (34 + v) + nI 1)) (34 + y) (w.1 84 (34 + y) + nI 1), bn, ?_, ?_, Or.inr rfl, ?_, ?_, fun c hc => ?_⟩
            · simp (disch := omega) only [↓reduceIte, ↓qa_b, zG_plays, zG_isNowOn, zG_isThere, zG_hits, qa_b, qa_lit, qa_ix, qa_cl, qa_ltT, qa_ltF, qa_eqT, qa_eqF, qa_nN, qa_qN, qa_neg1, Option.bind_some, if_true, if_false, nI_add, s4, hst, hq, hsv, hr, hn2, va_up_self, qa_up2, pk_un, sw]
            · simp (disch := omega) only [↓reduceIte, ↓qa_b, zM_isPlayed, zM_isPlayed_J226, zM_isOn, qa_b, qa_lit, qa_ix, qa_cl, qa_ltT, qa_ltF, qa_eqT, qa_eqF, qa_qN, qa_neg1, Option.bind_some, if_true, if_false, nI_add, t0, ty, tv, qf, qg, hq, hr, hn3, va_up_self, qa_up2, pk_un]
            · simp (disch := omega) only [pk_un] at d1
              exact d1
            · simp (disch := omega) only [pk_un, va_up_self, qa_up2] at d2
              exact d2
            · simp (disch := omega) only [↓reduceIte, ↓qa_b, qa_b, qa_lit, qa_neg1, qa_qN, nI_add, pk_mul, qa_ix, qa_cl, qa_ltT, qa_ltF, qa_eqT, qa_eqF, qa_nN, qa_Nn, qa_ltN, qa_Nlt, qa_NN, qa_ltNN, qa_sub, qa_dec, qa_dec0, qa_sub0, qa_incN, qa_31, qa_shr, qa_shl, qa_and1, va_up_self, qa_une, pk_us, pk_un, qa_up2, qa_upd2, Option.bind_some, if_true, if_false, and_true, true_and, and_self, qa_f1, qa_f2]
      · refine qp_no HA HS (Or.inl rfl) (r := nI 0) ?_ ?_
        · simp (disch := omega) only [↓reduceIte, ↓qa_b, qa_b, qa_lit, qa_neg1, qa_qN, nI_add, pk_mul, qa_ix, qa_cl, qa_ltT, qa_ltF, qa_eqT, qa_eqF, qa_nN, qa_Nn, qa_ltN, qa_Nlt, qa_NN, qa_ltNN, qa_sub, qa_dec, qa_dec0, qa_sub0, qa_incN, qa_31, qa_shr, qa_shl, qa_and1, va_up_self, qa_une, pk_us, pk_un, qa_up2, qa_upd2, Option.bind_some, if_true, if_false, and_true, true_and, and_self, qa_f1, qa_f2, zG_plays, zG_isNowOn, zG_isThere, s4, hst, hq]
        · simp (disch := omega) only [↓reduceIte, ↓qa_b, qa_b, qa_lit, qa_neg1, qa_qN, nI_add, pk_mul, qa_ix, qa_cl, qa_ltT, qa_ltF, qa_eqT, qa_eqF, qa_nN, qa_Nn, qa_ltN, qa_Nlt, qa_NN, qa_ltNN, qa_sub, qa_dec, qa_dec0, qa_sub0, qa_incN, qa_31, qa_shr, qa_shl, qa_and1, va_up_self, qa_une, pk_us, pk_un, qa_up2, qa_upd2, Option.bind_some, if_true, if_false, and_true, true_and, and_self, qa_f1, qa_f2, zM_isPlayed, zM_isOn, t0, ty, tv, qf, qg, hq]
  · refine qp_no HA HS (Or.inl rfl) (r := nI 0) ?_ ?_
    · rcases (show s = 4 ∨ s = 3 ∨ s = 5 ∨ s = 6 by omega) with rfl | rfl | rfl | rfl
      · simp (disch := omega) only [↓reduceIte, ↓qa_b, qa_b, qa_lit, qa_neg1, qa_qN, nI_add, pk_mul, qa_ix, qa_cl, qa_ltT, qa_ltF, qa_eqT, qa_eqF, qa_nN, qa_Nn, qa_ltN, qa_Nlt, qa_NN, qa_ltNN, qa_sub, qa_dec, qa_dec0, qa_sub0, qa_incN, qa_31, qa_shr, qa_shl, qa_and1, va_up_self, qa_une, pk_us, pk_un, qa_up2, qa_upd2, Option.bind_some, if_true, if_false, and_true, true_and, and_self, qa_f1, qa_f2, zG_plays, zG_isNowOn, zG_isThere, s4]
      · simp (disch := omega) only [↓reduceIte, ↓qa_b, qa_b, qa_lit, qa_neg1, qa_qN, nI_add, pk_mul, qa_ix, qa_cl, qa_ltT, qa_ltF, qa_eqT, qa_eqF, qa_nN, qa_Nn, qa_ltN, qa_Nlt, qa_NN, qa_ltNN, qa_sub, qa_dec, qa_dec0, qa_sub0, qa_incN, qa_31, qa_shr, qa_shl, qa_and1, va_up_self, qa_une, pk_us, pk_un, qa_up2, qa_upd2, Option.bind_some, if_true, if_false, and_true, true_and, and_self, qa_f1, qa_f2, zG_plays, zG_isNowOn, zG_isThere, s4]
      · simp (disch := omega) only [↓reduceIte, ↓qa_b, qa_b, qa_lit, qa_neg1, qa_qN, nI_add, pk_mul, qa_ix, qa_cl, qa_ltT, qa_ltF, qa_eqT, qa_eqF, qa_nN, qa_Nn, qa_ltN, qa_Nlt, qa_NN, qa_ltNN, qa_sub, qa_dec, qa_dec0, qa_sub0, qa_incN, qa_31, qa_shr, qa_shl, qa_and1, va_up_self, qa_une, pk_us, pk_un, qa_up2, qa_upd2, Option.bind_some, if_true, if_false, and_true, true_and, and_self, qa_f1, qa_f2, zG_plays, zG_isNowOn, zG_isThere, s4]
      · simp (disch := omega) only [↓reduceIte, ↓qa_b, qa_b, qa_lit, qa_neg1, qa_qN, nI_add, pk_mul, qa_ix, qa_cl, qa_ltT, qa_ltF, qa_eqT, qa_eqF, qa_nN, qa_Nn, qa_ltN, qa_Nlt, qa_NN, qa_ltNN, qa_sub, qa_dec, qa_dec0, qa_sub0, qa_incN, qa_31, qa_shr, qa_shl, qa_and1, va_up_self, qa_une, pk_us, pk_un, qa_up2, qa_upd2, Option.bind_some, if_true, if_false, and_true, true_and, and_self, qa_f1, qa_f2, zG_plays, zG_isNowOn, zG_isThere, s4, ite_self]
    · rcases (show s = 4 ∨ s = 3 ∨ s = 5 ∨ s = 6 by omega) with rfl | rfl | rfl | rfl
      · simp (disch := omega) only [↓reduceIte, ↓qa_b, qa_b, qa_lit, qa_neg1, qa_qN, nI_add, pk_mul, qa_ix, qa_cl, qa_ltT, qa_ltF, qa_eqT, qa_eqF, qa_nN, qa_Nn, qa_ltN, qa_Nlt, qa_NN, qa_ltNN, qa_sub, qa_dec, qa_dec0, qa_sub0, qa_incN, qa_31, qa_shr, qa_shl, qa_and1, va_up_self, qa_une, pk_us, pk_un, qa_up2, qa_upd2, Option.bind_some, if_true, if_false, and_true, true_and, and_self, qa_f1, qa_f2, zM_isPlayed, zM_isOn, t0, ty, qf]
      · simp (disch := omega) only [↓reduceIte, ↓qa_b, qa_b, qa_lit, qa_neg1, qa_qN, nI_add, pk_mul, qa_ix, qa_cl, qa_ltT, qa_ltF, qa_eqT, qa_eqF, qa_nN, qa_Nn, qa_ltN, qa_Nlt, qa_NN, qa_ltNN, qa_sub, qa_dec, qa_dec0, qa_sub0, qa_incN, qa_31, qa_shr, qa_shl, qa_and1, va_up_self, qa_une, pk_us, pk_un, qa_up2, qa_upd2, Option.bind_some, if_true, if_false, and_true, true_and, and_self, qa_f1, qa_f2, zM_isPlayed, zM_isOn, t0, ty, qf]
      · simp (disch := omega) only [↓reduceIte, ↓qa_b, qa_b, qa_lit, qa_neg1, qa_qN, nI_add, pk_mul, qa_ix, qa_cl, qa_ltT, qa_ltF, qa_eqT, qa_eqF, qa_nN, qa_Nn, qa_ltN, qa_Nlt, qa_NN, qa_ltNN, qa_sub, qa_dec, qa_dec0, qa_sub0, qa_incN, qa_31, qa_shr, qa_shl, qa_and1, va_up_self, qa_une, pk_us, pk_un, qa_up2, qa_upd2, Option.bind_some, if_true, if_false, and_true, true_and, and_self, qa_f1, qa_f2, zM_isPlayed, zM_isOn, t0, ty, qf]
      · simp (disch := omega) only [↓reduceIte, ↓qa_b, qa_b, qa_lit, qa_neg1, qa_qN, nI_add, pk_mul, qa_ix, qa_cl, qa_ltT, qa_ltF, qa_eqT, qa_eqF, qa_nN, qa_Nn, qa_ltN, qa_Nlt, qa_NN, qa_ltNN, qa_sub, qa_dec, qa_dec0, qa_sub0, qa_incN, qa_31, qa_shr, qa_shl, qa_and1, va_up_self, qa_une, pk_us, pk_un, qa_up2, qa_upd2, Option.bind_some, if_true, if_false, and_true, true_and, and_self, qa_f1, qa_f2, zM_isPlayed, zM_isOn, t0, ty, qf, ite_self]
theorem qp_loop {m x tnn : Nat} : ∀ (k n i L bn : Nat) (h : Nat → Nat → Int32) (w : zHM) (N : Nat), i + k = N → k < n → N ≤ 50 → L + 2 * k < 900000 → 3 ≤ P → P ≤ 8 → x = 20 + 7 * m → m < 4 → w.1 83 2 = nI P → qi_a L P pn fn tnn bn (w.1 84) → qi_stg 0 P pn fn tnn bn h (w.1 84) → qi_txt x (790 * m) h (w.1 86) → h x 0 = nI N → ∃ r h' a' bn2, zH_played_L24 n x (nI i) h = some (r, h') ∧ zM_played_L21 n (nI m) (nI i) w = some (r, (va_up w.1 84 a', w.2)) ∧ qi_a (L + 2 * k) P pn fn tnn bn2 a' ∧ qi_stg 0 P pn fn tnn bn2 h' a' ∧ (∀ c, 10 ≤ c → h' c = h c)
  | 0, n + 1, i, L, bn, h, w, N, hi, _, hN, hL, hP3, hP8, hx, hm, hP, HA, HS, HX, h0 => by
    have eq : va_up w.1 84 (w.1 84) = w.1 := by funext j; unfold va_up; split <;> simp_all
    have tm : w.1 86 (790 * m) = nI N := by
      obtain ⟨n', cs, _, _, e1, e2, _⟩ := HX
      rw [e2, ← e1, h0]
    refine ⟨qN, h, w.1 84, bn, ?_, ?_, HA, HS, fun _ _ => rfl⟩
    · simp (disch := omega) only [↓reduceIte, ↓qa_b, qa_b, qa_lit, qa_neg1, qa_qN, nI_add, pk_mul, qa_ix, qa_cl, qa_ltT, qa_ltF, qa_eqT, qa_eqF, qa_nN, qa_Nn, qa_ltN, qa_Nlt, qa_NN, qa_ltNN, qa_sub, qa_dec, qa_dec0, qa_sub0, qa_incN, qa_31, qa_shr, qa_shl, qa_and1, va_up_self, qa_une, pk_us, pk_un, qa_up2, qa_upd2, Option.bind_some, if_true, if_false, and_true, true_and, and_self, qa_f1, qa_f2, zH_played_L24, h0]
    · simp (disch := omega) only [↓reduceIte, ↓qa_b, qa_b, qa_lit, qa_neg1, qa_qN, nI_add, pk_mul, qa_ix, qa_cl, qa_ltT, qa_ltF, qa_eqT, qa_eqF, qa_nN, qa_Nn, qa_ltN, qa_Nlt, qa_NN, qa_ltNN, qa_sub, qa_dec, qa_dec0, qa_sub0, qa_incN, qa_31, qa_shr, qa_shl, qa_and1, va_up_self, qa_une, pk_us, pk_un, qa_up2, qa_upd2, Option.bind_some, if_true, if_false, and_true, true_and, and_self, qa_f1, qa_f2, zM_played_L21, tm, eq]
  | k + 1, n + 1, i, L, bn, h, w, N, hi, hn, hN, hL, hP3, hP8, hx, hm, hP, HA, HS, HX, h0 => by
    obtain ⟨n', cs, b1, b2, b3, b4, b5, b6, b7⟩ := id HX
    have en : n' = N := by
      have := b3.symm.trans h0
      exact (nI_eq (by omega) (by omega)).mp this
    subst en
    obtain ⟨s, hs, t0, t0', t1, t2, -⟩ := b6 i (by omega)
    obtain ⟨r, h', a', bn2, e1, e2, hr, c1, c2, c3⟩ := qp_plays (w := w) (h := h) (x := 790 * m + 1 + 3 * i) (s := s) (c1 := h (x + 2) i) (c2 := h (x + 3) i) hP3 hP8 (by omega) hP HA HS (by omega) hs t0 t1 t2
    rcases hr with rfl | rfl
    · refine ⟨nI i, h', a', bn2, ?_, ?_, qi_a_k (by omega) c1, c2, c3⟩
      · simp (disch := omega) only [↓reduceIte, ↓qa_b, qa_b, qa_lit, qa_neg1, qa_qN, nI_add, pk_mul, qa_ix, qa_cl, qa_ltT, qa_ltF, qa_eqT, qa_eqF, qa_nN, qa_Nn, qa_ltN, qa_Nlt, qa_NN, qa_ltNN, qa_sub, qa_dec, qa_dec0, qa_sub0, qa_incN, qa_31, qa_shr, qa_shl, qa_and1, va_up_self, qa_une, pk_us, pk_un, qa_up2, qa_upd2, Option.bind_some, if_true, if_false, and_true, true_and, and_self, qa_f1, qa_f2, zH_played_L24, h0, t0', e1]
      · simp (disch := omega) only [↓reduceIte, ↓qa_b, qa_b, qa_lit, qa_neg1, qa_qN, nI_add, pk_mul, qa_ix, qa_cl, qa_ltT, qa_ltF, qa_eqT, qa_eqF, qa_nN, qa_Nn, qa_ltN, qa_Nlt, qa_NN, qa_ltNN, qa_sub, qa_dec, qa_dec0, qa_sub0, qa_incN, qa_31, qa_shr, qa_shl, qa_and1, va_up_self, qa_une, pk_us, pk_un, qa_up2, qa_upd2, Option.bind_some, if_true, if_false, and_true, true_and, and_self, qa_f1, qa_f2, zM_played_L21, b4, e2]
    · obtain ⟨r, h2, a2, bn3, f1, f2, f3, f4, f5⟩ := qp_loop k n (i + 1) (L + 2) bn2 h' (va_up w.1 84 a', w.2) n' (by omega) (by omega) hN (by omega) hP3 hP8 hx hm (by simp (disch := omega) only [↓reduceIte, ↓qa_b, qa_b, qa_lit, qa_neg1, qa_qN, nI_add, pk_mul, qa_ix, qa_cl, qa_ltT, qa_ltF, qa_eqT, qa_eqF, qa_nN, qa_Nn, qa_ltN, qa_Nlt, qa_NN, qa_ltNN, qa_sub, qa_dec, qa_dec0, qa_sub0, qa_incN, qa_31, qa_shr, qa_shl, qa_and1, va_up_self, qa_une, pk_us, pk_un, qa_up2, qa_upd2, Option.bind_some, if_true, if_false, and_true, true_and, and_self, qa_f1, qa_f2, hP]) (by simp (disch := omega) only [↓reduceIte, ↓qa_b, qa_b, qa_lit, qa_neg1, qa_qN, nI_add, pk_mul, qa_ix, qa_cl, qa_ltT, qa_ltF, qa_eqT, qa_eqF, qa_nN, qa_Nn, qa_ltN, qa_Nlt, qa_NN, qa_ltNN, qa_sub, qa_dec, qa_dec0, qa_sub0, qa_incN, qa_31, qa_shr, qa_shl, qa_and1, va_up_self, qa_une, pk_us, pk_un, qa_up2, qa_upd2, Option.bind_some, if_true, if_false, and_true, true_and, and_self, qa_f1, qa_f2]; exact c1) (by simp (disch := omega) only [↓reduceIte, ↓qa_b, qa_b, qa_lit, qa_neg1, qa_qN, nI_add, pk_mul, qa_ix, qa_cl, qa_ltT, qa_ltF, qa_eqT, qa_eqF, qa_nN, qa_Nn, qa_ltN, qa_Nlt, qa_NN, qa_ltNN, qa_sub, qa_dec, qa_dec0, qa_sub0, qa_incN, qa_31, qa_shr, qa_shl, qa_and1, va_up_self, qa_une, pk_us, pk_un, qa_up2, qa_upd2, Option.bind_some, if_true, if_false, and_true, true_and, and_self, qa_f1, qa_f2]; exact c2) (by simp (disch := omega) only [↓reduceIte, ↓qa_b, qa_b, qa_lit, qa_neg1, qa_qN, nI_add, pk_mul, qa_ix, qa_cl, qa_ltT, qa_ltF, qa_eqT, qa_eqF, qa_nN, qa_Nn, qa_ltN, qa_Nlt, qa_NN, qa_ltNN, qa_sub, qa_dec, qa_dec0, qa_sub0, qa_incN, qa_31, qa_shr, qa_shl, qa_and1, va_up_self, qa_une, pk_us, pk_un, qa_up2, qa_upd2, Option.bind_some, if_true, if_false, and_true, true_and, and_self, qa_f1, qa_f2]; exact qi_txt_h (fun c hc _ => c3 c (by omega)) HX) (by rw [c3 x (by omega)]; exact h0)
      refine ⟨r, h2, a2, bn3, ?_, ?_, qi_a_k (by omega) f3, f4, fun c hc => by rw [f5 c hc, c3 c hc]⟩
      · simp (disch := omega) only [↓reduceIte, ↓qa_b, qa_b, qa_lit, qa_neg1, qa_qN, nI_add, pk_mul, qa_ix, qa_cl, qa_ltT, qa_ltF, qa_eqT, qa_eqF, qa_nN, qa_Nn, qa_ltN, qa_Nlt, qa_NN, qa_ltNN, qa_sub, qa_dec, qa_dec0, qa_sub0, qa_incN, qa_31, qa_shr, qa_shl, qa_and1, va_up_self, qa_une, pk_us, pk_un, qa_up2, qa_upd2, Option.bind_some, if_true, if_false, and_true, true_and, and_self, qa_f1, qa_f2, zH_played_L24, h0, t0', e1]
        exact f1
      · simp only [qa_f1, qa_f2, va_up_self, qa_up2] at f2
        simp (disch := omega) only [↓reduceIte, ↓qa_b, qa_b, qa_lit, qa_neg1, qa_qN, nI_add, pk_mul, qa_ix, qa_cl, qa_ltT, qa_ltF, qa_eqT, qa_eqF, qa_nN, qa_Nn, qa_ltN, qa_Nlt, qa_NN, qa_ltNN, qa_sub, qa_dec, qa_dec0, qa_sub0, qa_incN, qa_31, qa_shr, qa_shl, qa_and1, va_up_self, qa_une, pk_us, pk_un, qa_up2, qa_upd2, Option.bind_some, if_true, if_false, and_true, true_and, and_self, qa_f1, qa_f2, zM_played_L21, b4, e2]
        exact f2
end
section
variable {k P pn fn tn bn pn' fn' tn' bn' tl : Nat} {h : Nat → Nat → Int32} {w : zHM}
theorem qo_played (hk : k < 5000) (H : qi_core k P pn fn tn bn pn' fn' tn' bn' tl h w) (v1 : Int32) : qi_res k h w (zH_played v1 h) (zM_played v1 w) := by
  obtain ⟨h1, ec, fr, clr⟩ := qi_changed h
  have H1 := qi_core_h fr H
  obtain ⟨⟨hP3, hP8, hP, htn⟩, HA, -, HS, -, -, -, HX, -⟩ := H1
  obtain ⟨⟨a0, a1, a4, a6, lpn, lfn, ltn, lbn⟩, -⟩ := id HA
  have s11 : h1 1 11 = nI tn := (qi_stg0 HS).1.2.2.2.2.2.1
  have g11 : h 1 11 = nI tn := by rw [← fr 1 (by omega)]; exact s11
  have qi : zM_isIn v1 0 (w.1 84 4 - 1) = (if v1 < nI 0 then nI 0 else if v1 < nI tn then nI 1 else nI 0) := by
    rw [a4]
    exact qa_in00 v1 (by omega)
  have n2 : (-2 : Int32) = -(nI 2) := rfl
  rcases qa_arg v1 tn with hv | ⟨x, hx, hx', rfl⟩ | ⟨x, hx, hx', rfl⟩
  · refine ⟨-(nI 2), h, w, ?_, ?_, Or.inl ⟨rfl, rfl⟩⟩
    · simp (disch := omega) only [↓reduceIte, ↓qa_b, qa_b, qa_lit, qa_neg1, qa_qN, nI_add, pk_mul, qa_ix, qa_cl, qa_ltT, qa_ltF, qa_eqT, qa_eqF, qa_nN, qa_Nn, qa_ltN, qa_Nlt, qa_NN, qa_ltNN, qa_sub, qa_dec, qa_dec0, qa_sub0, qa_incN, qa_31, qa_shr, qa_shl, qa_and1, va_up_self, qa_une, pk_us, pk_un, qa_up2, qa_upd2, Option.bind_some, if_true, if_false, and_true, true_and, and_self, qa_f1, qa_f2, zH_played, zH_isText, hv]
    · unfold zM_played
      rw [qi]
      simp (disch := omega) only [↓reduceIte, ↓qa_b, qa_b, qa_lit, qa_neg1, qa_qN, nI_add, pk_mul, qa_ix, qa_cl, qa_ltT, qa_ltF, qa_eqT, qa_eqF, qa_nN, qa_Nn, qa_ltN, qa_Nlt, qa_NN, qa_ltNN, qa_sub, qa_dec, qa_dec0, qa_sub0, qa_incN, qa_31, qa_shr, qa_shl, qa_and1, va_up_self, qa_une, pk_us, pk_un, qa_up2, qa_upd2, Option.bind_some, if_true, if_false, and_true, true_and, and_self, qa_f1, qa_f2, hv]
  · refine ⟨-(nI 2), h, w, ?_, ?_, Or.inl ⟨rfl, rfl⟩⟩
    · simp (disch := omega) only [↓reduceIte, ↓qa_b, qa_b, qa_lit, qa_neg1, qa_qN, nI_add, pk_mul, qa_ix, qa_cl, qa_ltT, qa_ltF, qa_eqT, qa_eqF, qa_nN, qa_Nn, qa_ltN, qa_Nlt, qa_NN, qa_ltNN, qa_sub, qa_dec, qa_dec0, qa_sub0, qa_incN, qa_31, qa_shr, qa_shl, qa_and1, va_up_self, qa_une, pk_us, pk_un, qa_up2, qa_upd2, Option.bind_some, if_true, if_false, and_true, true_and, and_self, qa_f1, qa_f2, zH_played, zH_isText, g11]
    · unfold zM_played
      rw [qi]
      simp (disch := omega) only [↓reduceIte, ↓qa_b, qa_b, qa_lit, qa_neg1, qa_qN, nI_add, pk_mul, qa_ix, qa_cl, qa_ltT, qa_ltF, qa_eqT, qa_eqF, qa_nN, qa_Nn, qa_ltN, qa_Nlt, qa_NN, qa_ltNN, qa_sub, qa_dec, qa_dec0, qa_sub0, qa_incN, qa_31, qa_shr, qa_shl, qa_and1, va_up_self, qa_une, pk_us, pk_un, qa_up2, qa_upd2, Option.bind_some, if_true, if_false, and_true, true_and, and_self, qa_f1, qa_f2]
  · have HX2 := HX x hx
    obtain ⟨N, hN, h0⟩ : ∃ N, N ≤ 50 ∧ h1 (20 + 7 * x) 0 = nI N := by
      obtain ⟨n', cs, q1, _, e1, _⟩ := HX2
      exact ⟨n', q1, e1⟩
    obtain ⟨r, h', a', bn2, f1, f2, f3, f4, f5⟩ := qp_loop (m := x) (x := 20 + 7 * x) N am_N 0 (100 * k) bn h1 w N (by omega) (Nat.lt_of_le_of_lt hN (by decide)) hN (by omega) hP3 hP8 rfl (by omega) hP HA HS HX2 h0
    refine ⟨r, h', (va_up w.1 84 a', w.2), ?_, ?_, Or.inr ⟨?_, P, pn, fn, tn, bn2, pn', fn', tn', bn', tl, ?_⟩⟩
    · simp (disch := omega) only [↓reduceIte, ↓qa_b, qa_b, qa_lit, qa_neg1, qa_qN, nI_add, pk_mul, qa_ix, qa_cl, qa_ltT, qa_ltF, qa_eqT, qa_eqF, qa_nN, qa_Nn, qa_ltN, qa_Nlt, qa_NN, qa_ltNN, qa_sub, qa_dec, qa_dec0, qa_sub0, qa_incN, qa_31, qa_shr, qa_shl, qa_and1, va_up_self, qa_une, pk_us, pk_un, qa_up2, qa_upd2, Option.bind_some, if_true, if_false, and_true, true_and, and_self, qa_f1, qa_f2, zH_played, zH_isText, g11, ec]
      exact f1
    · unfold zM_played
      rw [qi]
      simp (disch := omega) only [↓reduceIte, ↓qa_b, qa_b, qa_lit, qa_neg1, qa_qN, nI_add, pk_mul, qa_ix, qa_cl, qa_ltT, qa_ltF, qa_eqT, qa_eqF, qa_nN, qa_Nn, qa_ltN, qa_Nlt, qa_NN, qa_ltNN, qa_sub, qa_dec, qa_dec0, qa_sub0, qa_incN, qa_31, qa_shr, qa_shl, qa_and1, va_up_self, qa_une, pk_us, pk_un, qa_up2, qa_upd2, Option.bind_some, if_true, if_false, and_true, true_and, and_self, qa_f1, qa_f2]
      exact f2
    · unfold qi_clr at clr ⊢
      rw [f5 59 (by omega), f5 77 (by omega), f5 80 (by omega)]
      exact clr
    · refine qi_core_s H (fun c hc hc' => ?_) ?_ ?_ ?_ ?_
      · rw [f5 c hc, fr c hc']
      · simp (disch := omega) only [↓reduceIte, ↓qa_b, qa_b, qa_lit, qa_neg1, qa_qN, nI_add, pk_mul, qa_ix, qa_cl, qa_ltT, qa_ltF, qa_eqT, qa_eqF, qa_nN, qa_Nn, qa_ltN, qa_Nlt, qa_NN, qa_ltNN, qa_sub, qa_dec, qa_dec0, qa_sub0, qa_incN, qa_31, qa_shr, qa_shl, qa_and1, va_up_self, qa_une, pk_us, pk_un, qa_up2, qa_upd2, Option.bind_some, if_true, if_false, and_true, true_and, and_self, qa_f1, qa_f2]
      · simp (disch := omega) only [↓reduceIte, ↓qa_b, qa_b, qa_lit, qa_neg1, qa_qN, nI_add, pk_mul, qa_ix, qa_cl, qa_ltT, qa_ltF, qa_eqT, qa_eqF, qa_nN, qa_Nn, qa_ltN, qa_Nlt, qa_NN, qa_ltNN, qa_sub, qa_dec, qa_dec0, qa_sub0, qa_incN, qa_31, qa_shr, qa_shl, qa_and1, va_up_self, qa_une, pk_us, pk_un, qa_up2, qa_upd2, Option.bind_some, if_true, if_false, and_true, true_and, and_self, qa_f1, qa_f2]
      · simp (disch := omega) only [↓reduceIte, ↓qa_b, qa_b, qa_lit, qa_neg1, qa_qN, nI_add, pk_mul, qa_ix, qa_cl, qa_ltT, qa_ltF, qa_eqT, qa_eqF, qa_nN, qa_Nn, qa_ltN, qa_Nlt, qa_NN, qa_ltNN, qa_sub, qa_dec, qa_dec0, qa_sub0, qa_incN, qa_31, qa_shr, qa_shl, qa_and1, va_up_self, qa_une, pk_us, pk_un, qa_up2, qa_upd2, Option.bind_some, if_true, if_false, and_true, true_and, and_self, qa_f1, qa_f2]
        exact qi_a_k (by omega) f3
      · simp (disch := omega) only [↓reduceIte, ↓qa_b, qa_b, qa_lit, qa_neg1, qa_qN, nI_add, pk_mul, qa_ix, qa_cl, qa_ltT, qa_ltF, qa_eqT, qa_eqF, qa_nN, qa_Nn, qa_ltN, qa_Nlt, qa_NN, qa_ltNN, qa_sub, qa_dec, qa_dec0, qa_sub0, qa_incN, qa_31, qa_shr, qa_shl, qa_and1, va_up_self, qa_une, pk_us, pk_un, qa_up2, qa_upd2, Option.bind_some, if_true, if_false, and_true, true_and, and_self, qa_f1, qa_f2]
        exact f4
end
