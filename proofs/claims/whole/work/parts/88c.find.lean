/-! THE HEART: search: the reference's list of ways, whole -/
section
variable {on : Nat → Bool} {hm : Nat → Nat → Nat} {ch : Nat → Nat → Bool} {p : (Nat → Nat) → Bool} {t : Nat} {w : zHM}
theorem qr_find (H : qr_H on hm ch p t w) : ∀ r, qr_P on hm ch p t w r
  | 0 => by
    intro f n u c l hf hn hg h96 h95 hr hl
    have hf6 : f = 6 := by omega
    subst hf6
    obtain ⟨HT, HO, HC, HW, h64, ht⟩ := id H
    obtain ⟨m, rfl⟩ : ∃ m, n = m + 1 := ⟨n - 1, by unfold qr_cost at hn; omega⟩
    have e := HW u c hg h96
    rw [show qw on (qw_ok on hm ch) 0 6 c = [c] from rfl] at hl ⊢
    cases hp : p c
    · rw [List.filter_cons_of_neg (by rw [hp]; decide), List.filter_nil, List.append_nil]
      rw [hp] at e
      refine ⟨m, u, Nat.le_refl _, ?_, qr_g.rf u, qr_oth.rf t u, fun _ _ => ⟨rfl, rfl⟩, hr⟩
      simp (disch := omega) only [↓reduceIte, ↓qa_b, zM_findWays_L16, qa_lit, qa_ltF, e, Option.bind_some, qs_b, qa_neg1, qa_qN, qr_dA, Bool.false_eq_true]
    · rw [List.filter_cons_of_pos hp, List.filter_nil] at hl ⊢
      rw [hp] at e
      obtain ⟨u', e1, g1, o1, y5, y6, r1⟩ := qr_lay ht (show l.length < 720 by simp at hl; omega) c h96 hr
      refine ⟨m, u', Nat.le_refl _, ?_, g1, o1, fun g _ => ⟨by rw [y6], by rw [y5]⟩, r1⟩
      simp (disch := omega) only [↓reduceIte, ↓qa_b, zM_findWays_L16, qa_lit, qa_ltF, e, e1, Option.bind_some, qs_b, qa_neg1, qa_qN, qr_dA, qa_eqF]
  | r + 1 => by
    intro f n u c l hf hn hg h96 h95 hr hl
    obtain ⟨HT, HO, HC, HW, h64, ht⟩ := id H
    have IH := qr_find H r
    have hcost : qr_cost (r + 1) = 1 + 6 * (qr_cost r + 1) := rfl
    obtain ⟨m, rfl⟩ : ∃ m, n = m + 1 := ⟨n - 1, by omega⟩
    rw [show qw on (qw_ok on hm ch) (r + 1) f c = if on f then qw_l (fun k => if qw_ok on hm ch f k c then qw on (qw_ok on hm ch) r (f + 1) (qw_u c f k) else []) 6 0 else qw on (qw_ok on hm ch) r (f + 1) c from rfl] at hl ⊢
    generalize hz2 : ((va_up u.1 96 (upd (u.1 96) f (nI 0)), u.2) : zHM) = z
    have gz : qr_g u z := fun c a b d e f g => by
      subst hz2
      simp (disch := omega) only [↓reduceIte, ↓qa_b, qa_b, qa_lit, qa_neg1, qa_qN, nI_add, pk_mul, qa_ix, qa_cl, qa_ltT, qa_ltF, qa_eqT, qa_eqF, qa_nN, qa_Nn, qa_ltN, qa_Nlt, qa_NN, qa_ltNN, qa_sub, qa_dec, qa_dec0, qa_sub0, qa_incN, qa_31, qa_shr, qa_shl, qa_and1, va_up_self, qa_une, pk_us, pk_un, qa_up2, qa_upd2, Option.bind_some, if_true, if_false, and_true, true_and, and_self, qa_f1, qa_f2]
    have z92 : z.1 92 = u.1 92 := by
      subst hz2
      simp (disch := omega) only [↓reduceIte, ↓qa_b, qa_b, qa_lit, qa_neg1, qa_qN, nI_add, pk_mul, qa_ix, qa_cl, qa_ltT, qa_ltF, qa_eqT, qa_eqF, qa_nN, qa_Nn, qa_ltN, qa_Nlt, qa_NN, qa_ltNN, qa_sub, qa_dec, qa_dec0, qa_sub0, qa_incN, qa_31, qa_shr, qa_shl, qa_and1, va_up_self, qa_une, pk_us, pk_un, qa_up2, qa_upd2, Option.bind_some, if_true, if_false, and_true, true_and, and_self, qa_f1, qa_f2]
    have z93 : z.1 93 = u.1 93 := by
      subst hz2
      simp (disch := omega) only [↓reduceIte, ↓qa_b, qa_b, qa_lit, qa_neg1, qa_qN, nI_add, pk_mul, qa_ix, qa_cl, qa_ltT, qa_ltF, qa_eqT, qa_eqF, qa_nN, qa_Nn, qa_ltN, qa_Nlt, qa_NN, qa_ltNN, qa_sub, qa_dec, qa_dec0, qa_sub0, qa_incN, qa_31, qa_shr, qa_shl, qa_and1, va_up_self, qa_une, pk_us, pk_un, qa_up2, qa_upd2, Option.bind_some, if_true, if_false, and_true, true_and, and_self, qa_f1, qa_f2]
    have z95 : z.1 95 = u.1 95 := by
      subst hz2
      simp (disch := omega) only [↓reduceIte, ↓qa_b, qa_b, qa_lit, qa_neg1, qa_qN, nI_add, pk_mul, qa_ix, qa_cl, qa_ltT, qa_ltF, qa_eqT, qa_eqF, qa_nN, qa_Nn, qa_ltN, qa_Nlt, qa_NN, qa_ltNN, qa_sub, qa_dec, qa_dec0, qa_sub0, qa_incN, qa_31, qa_shr, qa_shl, qa_and1, va_up_self, qa_une, pk_us, pk_un, qa_up2, qa_upd2, Option.bind_some, if_true, if_false, and_true, true_and, and_self, qa_f1, qa_f2]
    have z96 : ∀ g, g < f → z.1 96 g = u.1 96 g := fun g hg => by
      subst hz2
      simp (disch := omega) only [↓reduceIte, ↓qa_b, qa_b, qa_lit, qa_neg1, qa_qN, nI_add, pk_mul, qa_ix, qa_cl, qa_ltT, qa_ltF, qa_eqT, qa_eqF, qa_nN, qa_Nn, qa_ltN, qa_Nlt, qa_NN, qa_ltNN, qa_sub, qa_dec, qa_dec0, qa_sub0, qa_incN, qa_31, qa_shr, qa_shl, qa_and1, va_up_self, qa_une, pk_us, pk_un, qa_up2, qa_upd2, Option.bind_some, if_true, if_false, and_true, true_and, and_self, qa_f1, qa_f2]
    have z96' : z.1 96 f = nI 0 := by
      subst hz2
      simp (disch := omega) only [↓reduceIte, ↓qa_b, qa_b, qa_lit, qa_neg1, qa_qN, nI_add, pk_mul, qa_ix, qa_cl, qa_ltT, qa_ltF, qa_eqT, qa_eqF, qa_nN, qa_Nn, qa_ltN, qa_Nlt, qa_NN, qa_ltNN, qa_sub, qa_dec, qa_dec0, qa_sub0, qa_incN, qa_31, qa_shr, qa_shl, qa_and1, va_up_self, qa_une, pk_us, pk_un, qa_up2, qa_upd2, Option.bind_some, if_true, if_false, and_true, true_and, and_self, qa_f1, qa_f2]
    have zf : ∀ g, g < f → z.1 96 g = nI (qw_s on hm c g) := fun g h => by rw [z96 g h]; exact h96 g h
    have eT := HT z (hg.tr gz) f (by omega)
    cases ho : on f
    · rw [ho] at eT hl
      simp only [Bool.false_eq_true, if_false] at hl ⊢
      generalize hv : ((va_up (va_up z.1 95 (upd (z.1 95) f (nI 6))) 95 (upd (upd (z.1 95) f (nI 6)) (f + 1) qN), z.2) : zHM) = v
      have gv : qr_g z v := fun c a b d e f g => by
        subst hv
        simp (disch := omega) only [↓reduceIte, ↓qa_b, qa_b, qa_lit, qa_neg1, qa_qN, nI_add, pk_mul, qa_ix, qa_cl, qa_ltT, qa_ltF, qa_eqT, qa_eqF, qa_nN, qa_Nn, qa_ltN, qa_Nlt, qa_NN, qa_ltNN, qa_sub, qa_dec, qa_dec0, qa_sub0, qa_incN, qa_31, qa_shr, qa_shl, qa_and1, va_up_self, qa_une, pk_us, pk_un, qa_up2, qa_upd2, Option.bind_some, if_true, if_false, and_true, true_and, and_self, qa_f1, qa_f2]
      have v92 : v.1 92 = z.1 92 := by
        subst hv
        simp (disch := omega) only [↓reduceIte, ↓qa_b, qa_b, qa_lit, qa_neg1, qa_qN, nI_add, pk_mul, qa_ix, qa_cl, qa_ltT, qa_ltF, qa_eqT, qa_eqF, qa_nN, qa_Nn, qa_ltN, qa_Nlt, qa_NN, qa_ltNN, qa_sub, qa_dec, qa_dec0, qa_sub0, qa_incN, qa_31, qa_shr, qa_shl, qa_and1, va_up_self, qa_une, pk_us, pk_un, qa_up2, qa_upd2, Option.bind_some, if_true, if_false, and_true, true_and, and_self, qa_f1, qa_f2]
      have v93 : v.1 93 = z.1 93 := by
        subst hv
        simp (disch := omega) only [↓reduceIte, ↓qa_b, qa_b, qa_lit, qa_neg1, qa_qN, nI_add, pk_mul, qa_ix, qa_cl, qa_ltT, qa_ltF, qa_eqT, qa_eqF, qa_nN, qa_Nn, qa_ltN, qa_Nlt, qa_NN, qa_ltNN, qa_sub, qa_dec, qa_dec0, qa_sub0, qa_incN, qa_31, qa_shr, qa_shl, qa_and1, va_up_self, qa_une, pk_us, pk_un, qa_up2, qa_upd2, Option.bind_some, if_true, if_false, and_true, true_and, and_self, qa_f1, qa_f2]
      have v96 : v.1 96 = z.1 96 := by
        subst hv
        simp (disch := omega) only [↓reduceIte, ↓qa_b, qa_b, qa_lit, qa_neg1, qa_qN, nI_add, pk_mul, qa_ix, qa_cl, qa_ltT, qa_ltF, qa_eqT, qa_eqF, qa_nN, qa_Nn, qa_ltN, qa_Nlt, qa_NN, qa_ltNN, qa_sub, qa_dec, qa_dec0, qa_sub0, qa_incN, qa_31, qa_shr, qa_shl, qa_and1, va_up_self, qa_une, pk_us, pk_un, qa_up2, qa_upd2, Option.bind_some, if_true, if_false, and_true, true_and, and_self, qa_f1, qa_f2]
      have v95 : ∀ g, g < f → v.1 95 g = z.1 95 g := fun g hg => by
        subst hv
        simp (disch := omega) only [↓reduceIte, ↓qa_b, qa_b, qa_lit, qa_neg1, qa_qN, nI_add, pk_mul, qa_ix, qa_cl, qa_ltT, qa_ltF, qa_eqT, qa_eqF, qa_nN, qa_Nn, qa_ltN, qa_Nlt, qa_NN, qa_ltNN, qa_sub, qa_dec, qa_dec0, qa_sub0, qa_incN, qa_31, qa_shr, qa_shl, qa_and1, va_up_self, qa_une, pk_us, pk_un, qa_up2, qa_upd2, Option.bind_some, if_true, if_false, and_true, true_and, and_self, qa_f1, qa_f2]
      have v95' : v.1 95 (f + 1) = qN := by
        subst hv
        simp (disch := omega) only [↓reduceIte, ↓qa_b, qa_b, qa_lit, qa_neg1, qa_qN, nI_add, pk_mul, qa_ix, qa_cl, qa_ltT, qa_ltF, qa_eqT, qa_eqF, qa_nN, qa_Nn, qa_ltN, qa_Nlt, qa_NN, qa_ltNN, qa_sub, qa_dec, qa_dec0, qa_sub0, qa_incN, qa_31, qa_shr, qa_shl, qa_and1, va_up_self, qa_une, pk_us, pk_un, qa_up2, qa_upd2, Option.bind_some, if_true, if_false, and_true, true_and, and_self, qa_f1, qa_f2]
      have v95f : v.1 95 f = nI 6 := by
        subst hv
        simp (disch := omega) only [↓reduceIte, ↓qa_b, qa_b, qa_lit, qa_neg1, qa_qN, nI_add, pk_mul, qa_ix, qa_cl, qa_ltT, qa_ltF, qa_eqT, qa_eqF, qa_nN, qa_Nn, qa_ltN, qa_Nlt, qa_NN, qa_ltNN, qa_sub, qa_dec, qa_dec0, qa_sub0, qa_incN, qa_31, qa_shr, qa_shl, qa_and1, va_up_self, qa_une, pk_us, pk_un, qa_up2, qa_upd2, Option.bind_some, if_true, if_false, and_true, true_and, and_self, qa_f1, qa_f2]
      obtain ⟨n1, u2, q1, q2, q3, q4, q5, q6⟩ := IH (f + 1) m v c l (by omega) (by omega) (hg.tr (gz.tr gv)) (fun g hgf => by
          rw [v96]
          by_cases hgf' : g = f
          · subst hgf'
            rw [z96', show qw_s on hm c g = 0 by unfold qw_s; rw [ho]; rfl]
          · exact zf g (by omega)) v95' (qr_rows_e (v92.trans z92) (v93.trans z93) hr) hl
      obtain ⟨n2, rfl⟩ : ∃ n2, n1 = n2 + 1 := ⟨n1 - 1, by omega⟩
      have g2 := hg.tr (gz.tr (gv.tr q3))
      have u95 : u2.1 95 f = nI 6 := by rw [(q5 f (by omega)).2, v95f]
      generalize hy2 : ((va_up u2.1 96 (upd (u2.1 96) f (nI 0)), u2.2) : zHM) = y
      have gy : qr_g u2 y := fun c a b d e f g => by
        subst hy2
        simp (disch := omega) only [↓reduceIte, ↓qa_b, qa_b, qa_lit, qa_neg1, qa_qN, nI_add, pk_mul, qa_ix, qa_cl, qa_ltT, qa_ltF, qa_eqT, qa_eqF, qa_nN, qa_Nn, qa_ltN, qa_Nlt, qa_NN, qa_ltNN, qa_sub, qa_dec, qa_dec0, qa_sub0, qa_incN, qa_31, qa_shr, qa_shl, qa_and1, va_up_self, qa_une, pk_us, pk_un, qa_up2, qa_upd2, Option.bind_some, if_true, if_false, and_true, true_and, and_self, qa_f1, qa_f2]
      have y92 : y.1 92 = u2.1 92 := by
        subst hy2
        simp (disch := omega) only [↓reduceIte, ↓qa_b, qa_b, qa_lit, qa_neg1, qa_qN, nI_add, pk_mul, qa_ix, qa_cl, qa_ltT, qa_ltF, qa_eqT, qa_eqF, qa_nN, qa_Nn, qa_ltN, qa_Nlt, qa_NN, qa_ltNN, qa_sub, qa_dec, qa_dec0, qa_sub0, qa_incN, qa_31, qa_shr, qa_shl, qa_and1, va_up_self, qa_une, pk_us, pk_un, qa_up2, qa_upd2, Option.bind_some, if_true, if_false, and_true, true_and, and_self, qa_f1, qa_f2]
      have y93 : y.1 93 = u2.1 93 := by
        subst hy2
        simp (disch := omega) only [↓reduceIte, ↓qa_b, qa_b, qa_lit, qa_neg1, qa_qN, nI_add, pk_mul, qa_ix, qa_cl, qa_ltT, qa_ltF, qa_eqT, qa_eqF, qa_nN, qa_Nn, qa_ltN, qa_Nlt, qa_NN, qa_ltNN, qa_sub, qa_dec, qa_dec0, qa_sub0, qa_incN, qa_31, qa_shr, qa_shl, qa_and1, va_up_self, qa_une, pk_us, pk_un, qa_up2, qa_upd2, Option.bind_some, if_true, if_false, and_true, true_and, and_self, qa_f1, qa_f2]
      have y95 : y.1 95 = u2.1 95 := by
        subst hy2
        simp (disch := omega) only [↓reduceIte, ↓qa_b, qa_b, qa_lit, qa_neg1, qa_qN, nI_add, pk_mul, qa_ix, qa_cl, qa_ltT, qa_ltF, qa_eqT, qa_eqF, qa_nN, qa_Nn, qa_ltN, qa_Nlt, qa_NN, qa_ltNN, qa_sub, qa_dec, qa_dec0, qa_sub0, qa_incN, qa_31, qa_shr, qa_shl, qa_and1, va_up_self, qa_une, pk_us, pk_un, qa_up2, qa_upd2, Option.bind_some, if_true, if_false, and_true, true_and, and_self, qa_f1, qa_f2]
      have y96 : ∀ g, g < f → y.1 96 g = u2.1 96 g := fun g hg => by
        subst hy2
        simp (disch := omega) only [↓reduceIte, ↓qa_b, qa_b, qa_lit, qa_neg1, qa_qN, nI_add, pk_mul, qa_ix, qa_cl, qa_ltT, qa_ltF, qa_eqT, qa_eqF, qa_nN, qa_Nn, qa_ltN, qa_Nlt, qa_NN, qa_ltNN, qa_sub, qa_dec, qa_dec0, qa_sub0, qa_incN, qa_31, qa_shr, qa_shl, qa_and1, va_up_self, qa_une, pk_us, pk_un, qa_up2, qa_upd2, Option.bind_some, if_true, if_false, and_true, true_and, and_self, qa_f1, qa_f2]
      have eT2 := HT y (g2.tr gy) f (by omega)
      rw [ho] at eT2
      refine ⟨n2, y, by omega, ?_, gz.tr (gv.tr (q3.tr gy)), (qr_oth_e z92 z93).tr ((qr_oth_e v92 v93).tr (q4.tr (qr_oth_e y92 y93))), fun g h => ?_, qr_rows_e y92 y93 q6⟩
      · have : zM_findWays_L16 (m + 1) (nI t) (nI f) u = zM_findWays_L16 m (nI t) (nI (f + 1)) v := by
          subst hz2
          subst hv
          simp (disch := omega) only [↓reduceIte, ↓qa_b, zM_findWays_L16, zM_begin, zM_next, qa_ix, qa_cl, qa_lit, qa_neg1, qa_qN, qa_ltF, qa_eqF, eT, Option.bind_some, qs_b, h95, nI_add, qa_une, va_up_self, qa_f1, qa_f2, Bool.false_eq_true]
        rw [this, q2, qr_d1]
        subst hy2
        simp (disch := omega) only [↓reduceIte, ↓qa_b, zM_findWays_L16, qa_ix, qa_cl, qa_lit, qa_neg1, qa_qN, qa_ltF, qa_eqF, eT2, Option.bind_some, qs_b, u95, qa_une, qa_f1, qa_f2, qa_nN, qr_dS, Bool.false_eq_true]
      · have a2 := q5 g (by omega)
        constructor
        · rw [y96 g h, a2.1, v96, z96 g h]
        · rw [y95, a2.2, v95 g h, z95]
    · rw [ho] at eT hl
      simp only [if_true] at hl ⊢
      have eB := qr_busy (t := t) (show f < 6 by omega) c (fun v1 v2 w => zM_findWays_L16 m v1 v2 w) z zf f am_N 0 (by omega) (Nat.lt_of_lt_of_le (show f < 6 by omega) (by decide))
      rw [z95, h95, qa_incN] at eB
      generalize hy : ((va_up z.1 95 (upd (u.1 95) f (nI 0)), z.2) : zHM) = y at eB
      have gy : qr_g z y := fun c a b d e f g => by
        subst hy
        simp (disch := omega) only [↓reduceIte, ↓qa_b, qa_b, qa_lit, qa_neg1, qa_qN, nI_add, pk_mul, qa_ix, qa_cl, qa_ltT, qa_ltF, qa_eqT, qa_eqF, qa_nN, qa_Nn, qa_ltN, qa_Nlt, qa_NN, qa_ltNN, qa_sub, qa_dec, qa_dec0, qa_sub0, qa_incN, qa_31, qa_shr, qa_shl, qa_and1, va_up_self, qa_une, pk_us, pk_un, qa_up2, qa_upd2, Option.bind_some, if_true, if_false, and_true, true_and, and_self, qa_f1, qa_f2]
      have y92 : y.1 92 = z.1 92 := by
        subst hy
        simp (disch := omega) only [↓reduceIte, ↓qa_b, qa_b, qa_lit, qa_neg1, qa_qN, nI_add, pk_mul, qa_ix, qa_cl, qa_ltT, qa_ltF, qa_eqT, qa_eqF, qa_nN, qa_Nn, qa_ltN, qa_Nlt, qa_NN, qa_ltNN, qa_sub, qa_dec, qa_dec0, qa_sub0, qa_incN, qa_31, qa_shr, qa_shl, qa_and1, va_up_self, qa_une, pk_us, pk_un, qa_up2, qa_upd2, Option.bind_some, if_true, if_false, and_true, true_and, and_self, qa_f1, qa_f2]
      have y93 : y.1 93 = z.1 93 := by
        subst hy
        simp (disch := omega) only [↓reduceIte, ↓qa_b, qa_b, qa_lit, qa_neg1, qa_qN, nI_add, pk_mul, qa_ix, qa_cl, qa_ltT, qa_ltF, qa_eqT, qa_eqF, qa_nN, qa_Nn, qa_ltN, qa_Nlt, qa_NN, qa_ltNN, qa_sub, qa_dec, qa_dec0, qa_sub0, qa_incN, qa_31, qa_shr, qa_shl, qa_and1, va_up_self, qa_une, pk_us, pk_un, qa_up2, qa_upd2, Option.bind_some, if_true, if_false, and_true, true_and, and_self, qa_f1, qa_f2]
      have y96 : y.1 96 = z.1 96 := by
        subst hy
        simp (disch := omega) only [↓reduceIte, ↓qa_b, qa_b, qa_lit, qa_neg1, qa_qN, nI_add, pk_mul, qa_ix, qa_cl, qa_ltT, qa_ltF, qa_eqT, qa_eqF, qa_nN, qa_Nn, qa_ltN, qa_Nlt, qa_NN, qa_ltNN, qa_sub, qa_dec, qa_dec0, qa_sub0, qa_incN, qa_31, qa_shr, qa_shl, qa_and1, va_up_self, qa_une, pk_us, pk_un, qa_up2, qa_upd2, Option.bind_some, if_true, if_false, and_true, true_and, and_self, qa_f1, qa_f2]
      have y95 : y.1 95 f = nI 0 := by
        subst hy
        simp (disch := omega) only [↓reduceIte, ↓qa_b, qa_b, qa_lit, qa_neg1, qa_qN, nI_add, pk_mul, qa_ix, qa_cl, qa_ltT, qa_ltF, qa_eqT, qa_eqF, qa_nN, qa_Nn, qa_ltN, qa_Nlt, qa_NN, qa_ltNN, qa_sub, qa_dec, qa_dec0, qa_sub0, qa_incN, qa_31, qa_shr, qa_shl, qa_and1, va_up_self, qa_une, pk_us, pk_un, qa_up2, qa_upd2, Option.bind_some, if_true, if_false, and_true, true_and, and_self, qa_f1, qa_f2]
      have y95' : ∀ g, g < f → y.1 95 g = u.1 95 g := fun g hg => by
        subst hy
        simp (disch := omega) only [↓reduceIte, ↓qa_b, qa_b, qa_lit, qa_neg1, qa_qN, nI_add, pk_mul, qa_ix, qa_cl, qa_ltT, qa_ltF, qa_eqT, qa_eqF, qa_nN, qa_Nn, qa_ltN, qa_Nlt, qa_NN, qa_ltNN, qa_sub, qa_dec, qa_dec0, qa_sub0, qa_incN, qa_31, qa_shr, qa_shl, qa_and1, va_up_self, qa_une, pk_us, pk_un, qa_up2, qa_upd2, Option.bind_some, if_true, if_false, and_true, true_and, and_self, qa_f1, qa_f2]
      obtain ⟨n', u', r1, r2, r3, r4, r5, r6⟩ := qr_in H IH (by omega) ho c 6 0 m am_N y l (by omega) (by decide) (by omega) (hg.tr (gz.tr gy)) (fun g h => by rw [y96]; exact zf g h) y95 (qr_rows_e (y92.trans z92) (y93.trans z93) hr) hl
      refine ⟨n', u', by omega, ?_, gz.tr (gy.tr r3), (qr_oth_e z92 z93).tr ((qr_oth_e y92 y93).tr r4), fun g h => ?_, r6⟩
      · have : zM_findWays_L16 (m + 1) (nI t) (nI f) u = zM_findWays_L91 (fun v1 v2 w => zM_findWays_L16 m v1 v2 w) am_N (nI t) (nI f) (nI 0) (nI 0) z := by
          subst hz2
          simp (disch := omega) only [↓reduceIte, ↓qa_b, zM_findWays_L16, qa_ix, qa_cl, qa_lit, qa_ltF, qa_eqF, eT, Option.bind_some, qs_b]
        rw [this]
        exact eB.trans r2
      · have a1 := r5 g h
        constructor
        · rw [a1.1, y96, z96 g h]
        · rw [a1.2, y95' g h]
theorem qm_findWays (H : qr_H on hm ch p t w) (hl : ((qw on (qw_ok on hm ch) 6 0 (fun _ => 0)).filter p).length ≤ 720) : ∃ u, zM_findWays (nI t) w = some u ∧ qr_g w u ∧ qr_oth t w u ∧ qr_rows on hm t u ((qw on (qw_ok on hm ch) 6 0 (fun _ => 0)).filter p) := by
  have ht : t < 24 := H.2.2.2.2.2
  generalize hz : ((va_up (va_up w.1 93 (upd (w.1 93) t (nI 0))) 95 (upd (w.1 95) 0 qN), w.2) : zHM) = z
  have gz : qr_g w z := fun c a b d e f g => by
    subst hz
    simp (disch := omega) only [↓reduceIte, ↓qa_b, qa_b, qa_lit, qa_neg1, qa_qN, nI_add, pk_mul, qa_ix, qa_cl, qa_ltT, qa_ltF, qa_eqT, qa_eqF, qa_nN, qa_Nn, qa_ltN, qa_Nlt, qa_NN, qa_ltNN, qa_sub, qa_dec, qa_dec0, qa_sub0, qa_incN, qa_31, qa_shr, qa_shl, qa_and1, va_up_self, qa_une, pk_us, pk_un, qa_up2, qa_upd2, Option.bind_some, if_true, if_false, and_true, true_and, and_self, qa_f1, qa_f2]
  have z92 : z.1 92 = w.1 92 := by
    subst hz
    simp (disch := omega) only [↓reduceIte, ↓qa_b, qa_b, qa_lit, qa_neg1, qa_qN, nI_add, pk_mul, qa_ix, qa_cl, qa_ltT, qa_ltF, qa_eqT, qa_eqF, qa_nN, qa_Nn, qa_ltN, qa_Nlt, qa_NN, qa_ltNN, qa_sub, qa_dec, qa_dec0, qa_sub0, qa_incN, qa_31, qa_shr, qa_shl, qa_and1, va_up_self, qa_une, pk_us, pk_un, qa_up2, qa_upd2, Option.bind_some, if_true, if_false, and_true, true_and, and_self, qa_f1, qa_f2]
  have z93 : z.1 93 = upd (w.1 93) t (nI 0) := by
    subst hz
    simp (disch := omega) only [↓reduceIte, ↓qa_b, qa_b, qa_lit, qa_neg1, qa_qN, nI_add, pk_mul, qa_ix, qa_cl, qa_ltT, qa_ltF, qa_eqT, qa_eqF, qa_nN, qa_Nn, qa_ltN, qa_Nlt, qa_NN, qa_ltNN, qa_sub, qa_dec, qa_dec0, qa_sub0, qa_incN, qa_31, qa_shr, qa_shl, qa_and1, va_up_self, qa_une, pk_us, pk_un, qa_up2, qa_upd2, Option.bind_some, if_true, if_false, and_true, true_and, and_self, qa_f1, qa_f2]
  have z95 : z.1 95 0 = qN := by
    subst hz
    simp (disch := omega) only [↓reduceIte, ↓qa_b, qa_b, qa_lit, qa_neg1, qa_qN, nI_add, pk_mul, qa_ix, qa_cl, qa_ltT, qa_ltF, qa_eqT, qa_eqF, qa_nN, qa_Nn, qa_ltN, qa_Nlt, qa_NN, qa_ltNN, qa_sub, qa_dec, qa_dec0, qa_sub0, qa_incN, qa_31, qa_shr, qa_shl, qa_and1, va_up_self, qa_une, pk_us, pk_un, qa_up2, qa_upd2, Option.bind_some, if_true, if_false, and_true, true_and, and_self, qa_f1, qa_f2]
  obtain ⟨n', u', q1, q2, q3, q4, q5, q6⟩ := qr_find H 6 0 am_N z (fun _ => 0) [] (by omega) (by decide) gz (fun g hg => by omega) z95 ⟨by
      rw [z93]
      simp (disch := omega) only [↓reduceIte, ↓qa_b, qa_b, qa_lit, qa_neg1, qa_qN, nI_add, pk_mul, qa_ix, qa_cl, qa_ltT, qa_ltF, qa_eqT, qa_eqF, qa_nN, qa_Nn, qa_ltN, qa_Nlt, qa_NN, qa_ltNN, qa_sub, qa_dec, qa_dec0, qa_sub0, qa_incN, qa_31, qa_shr, qa_shl, qa_and1, va_up_self, qa_une, pk_us, pk_un, qa_up2, qa_upd2, Option.bind_some, if_true, if_false, and_true, true_and, and_self, qa_f1, qa_f2, List.length_nil], fun i c hc => by simp at hc⟩ (by rw [List.length_nil, Nat.zero_add]; exact hl)
  have hN : am_N = 999999 + 1 := by decide
  have hC : qr_cost 6 < 999999 := by decide
  obtain ⟨n2, rfl⟩ : ∃ n2, n' = n2 + 1 := ⟨n' - 1, by omega⟩
  refine ⟨u', ?_, gz.tr q3, ⟨fun j hj => ?_, fun j hj => ?_⟩, q6⟩
  · have : zM_findWays (nI t) w = zM_findWays_L16 am_N (nI t) (nI 0) z := by
      subst hz
      simp (disch := omega) only [↓reduceIte, ↓qa_b, zM_findWays, qa_ix, qa_cl, qa_lit, qa_neg1, qa_qN, qa_une, qa_f1, qa_f2]
    rw [this, q2, show qr_d 0 = qN from rfl]
    simp (disch := omega) only [↓reduceIte, zM_findWays_L16, qa_lit, qa_Nlt]
  · rw [q4.1 j hj, z93]
    simp (disch := omega) only [↓reduceIte, ↓qa_b, qa_b, qa_lit, qa_neg1, qa_qN, nI_add, pk_mul, qa_ix, qa_cl, qa_ltT, qa_ltF, qa_eqT, qa_eqF, qa_nN, qa_Nn, qa_ltN, qa_Nlt, qa_NN, qa_ltNN, qa_sub, qa_dec, qa_dec0, qa_sub0, qa_incN, qa_31, qa_shr, qa_shl, qa_and1, va_up_self, qa_une, pk_us, pk_un, qa_up2, qa_upd2, Option.bind_some, if_true, if_false, and_true, true_and, and_self, qa_f1, qa_f2]
  · rw [q4.2 j hj, z92]
end
