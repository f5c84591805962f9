/-! THE HEART: judge -/
def qj_why (a tx : Nat → Int32) (or : Nat → Nat) (pn fn t : Nat) : Nat :=
  if qs_all (qj_1 a t) 0 fn = false then 1 else if qs_all (qj_2 a t) 0 fn = false then 2 else if qs_all (qj_3 a t) 0 fn = false then 3 else if qj_4 or a fn t = true then 4 else if qs_all (qj_5 a tx t) 0 fn = false then 5 else if qj_6 a pn fn t = false then 6 else if qs_all (qj_7 a tx t) 0 fn = false then 7 else if qj_8 a pn fn t = false then 8 else 0
theorem qs_all_of {p : Nat → Bool} {n : Nat} (h : qs_all p 0 n = true) : ∀ g, g < n → p g = true := fun g hg => (qs_all_iff p n 0).mp h g (by omega) (by omega)
section
variable {L P pn fn tn bn : Nat} {hm : Nat → Nat} {h : Nat → Nat → Int32} {w : zHM}
theorem qh_why (HA : qi_a L P pn fn tn bn (w.1 84)) (HS : qi_stg 0 P pn fn tn bn h (w.1 84)) (HL : qk_L (w.1 84) (w.1 86) pn fn bn h) (e2 : ∀ p, p < pn → h 2 p = nI (hm p) ∧ hm p < 8) {t : Nat} (ht : t < bn) : zJ_why (nI t) h = some (nI (qj_why (w.1 84) (w.1 86) (qs_or hm pn) pn fn t)) := by
  obtain ⟨a0, a1, a4, a6, lpn, lfn, ltn, lbn⟩ := id HA.1
  obtain ⟨lm, hl, e3⟩ := HA.2.2.1
  have nf : fn < am_N := Nat.lt_of_le_of_lt lfn (by decide)
  have c1 : zJ_isHeldAsWanted (nI t) h = some (qs_b (qs_all (qj_1 (w.1 84) t) 0 fn)) := qh_j1 HA HS ht fn am_N 0 (by omega) nf
  have c2 : zJ_isHeldApart (nI t) h = some (qs_b (qs_all (qj_2 (w.1 84) t) 0 fn)) := qh_j2 HA HS ht fn am_N 0 (by omega) nf
  have c4 : zJ_isCrossed (nI t) h = some (qs_b (qj_4 (qs_or hm pn) (w.1 84) fn t)) := qh_crO HA HS e2 ht fn am_N 0 (by omega) nf
  have c6 : zJ_isHung (nI t) h = some (qs_b (qj_6 (w.1 84) pn fn t)) := by
    have e := qh_j6 HA HS ht fn am_N 0 0 (by omega) nf (by omega)
    rw [Nat.zero_add] at e
    refine e.trans ?_
    unfold qj_6 qs_b
    by_cases hc : nI (2 * pn - qs_bn (qs_by (w.1 84) t fn)) < nI (qj_of (w.1 84) t 0 fn) - w.1 84 2
    · rw [if_pos hc, decide_eq_false (fun q => q hc)]; rfl
    · rw [if_neg hc, decide_eq_true hc]; rfl
  have s10 := (qi_stg0 HS).1.2.2.2.2.1
  have c8 : zJ_isRested (nI t) h = some (qs_b (qj_8 (w.1 84) pn fn t)) := by
    rw [e3] at s10
    have eb := qh_busy HA HS ht
    by_cases h0 : lm = 0
    · subst h0
      have : qj_8 (w.1 84) pn fn t = true := by unfold qj_8; rw [decide_eq_true e3, Bool.true_or]
      rw [this]
      simp (disch := omega) only [↓reduceIte, ↓qa_b, qa_b, qa_lit, qa_neg1, qa_qN, nI_add, pk_mul, qa_ix, qa_cl, qa_ltT, qa_ltF, qa_eqT, qa_eqF, qa_nN, qa_Nn, qa_ltN, qa_Nlt, qa_NN, qa_ltNN, qa_sub, qa_dec, qa_dec0, qa_sub0, qa_incN, qa_31, qa_shr, qa_shl, qa_and1, va_up_self, qa_une, pk_us, pk_un, qa_up2, qa_upd2, Option.bind_some, if_true, if_false, and_true, true_and, and_self, qa_f1, qa_f2, zJ_isRested, s10]
      rfl
    · have e := qh_j8 HA HS ht hl e3 lm am_N 0 (by omega) (Nat.lt_of_le_of_lt hl (by decide))
      have : qj_8 (w.1 84) pn fn t = decide (qj_tr (w.1 84) fn t lm = 0) := by
        unfold qj_8
        rw [decide_eq_false (fun q => by rw [e3, qa_eqE (by omega) (by omega)] at q; exact h0 q), Bool.false_or, qj_rest HA ht hl e3]
      rw [this]
      simp (disch := omega) only [↓reduceIte, zJ_isRested, s10, qa_lit, qa_eqF, eb, Option.bind_some]
      exact e
  unfold qj_why
  cases d1 : qs_all (qj_1 (w.1 84) t) 0 fn
  · rw [d1] at c1
    simp (disch := omega) only [↓reduceIte, zJ_why, c1, Option.bind_some, qs_b0, qa_lit]
  rw [d1] at c1
  have H1 := qs_all_of d1
  cases d2 : qs_all (qj_2 (w.1 84) t) 0 fn
  · rw [d2] at c2
    simp (disch := omega) only [↓reduceIte, zJ_why, c1, c2, Option.bind_some, qs_b0, qa_lit, Bool.true_eq_false]
  rw [d2] at c2
  have c3 : zJ_isEachAmong (nI t) (nI 1) h = some (qs_b (qs_all (qj_3 (w.1 84) t) 0 fn)) := qh_j3 HA HS HL ht H1 fn am_N 0 (by omega) nf
  cases d3 : qs_all (qj_3 (w.1 84) t) 0 fn
  · rw [d3] at c3
    simp (disch := omega) only [↓reduceIte, zJ_why, c1, c2, c3, Option.bind_some, qs_b0, qa_lit, Bool.true_eq_false]
  rw [d3] at c3
  have H3 := qs_all_of d3
  cases d4 : qj_4 (qs_or hm pn) (w.1 84) fn t
  rotate_left
  · rw [d4] at c4
    simp (disch := omega) only [↓reduceIte, zJ_why, c1, c2, c3, c4, Option.bind_some, qs_b0, qa_lit, Bool.true_eq_false]
  rw [d4] at c4
  have c5 : zJ_isEachAmong (nI t) (nI 0) h = some (qs_b (qs_all (qj_5 (w.1 84) (w.1 86) t) 0 fn)) := qh_j5 HA HS HL ht H1 H3 fn am_N 0 (by omega) nf
  cases d5 : qs_all (qj_5 (w.1 84) (w.1 86) t) 0 fn
  · rw [d5] at c5
    simp (disch := omega) only [↓reduceIte, zJ_why, c1, c2, c3, c4, c5, Option.bind_some, qs_b0, qa_lit, Bool.true_eq_false, Bool.false_eq_true]
  rw [d5] at c5
  cases d6 : qj_6 (w.1 84) pn fn t
  · rw [d6] at c6
    simp (disch := omega) only [↓reduceIte, zJ_why, c1, c2, c3, c4, c5, c6, Option.bind_some, qs_b0, qa_lit, Bool.true_eq_false, Bool.false_eq_true]
  rw [d6] at c6
  have c7 : zJ_isPassed (nI t) h = some (qs_b (qs_all (qj_7 (w.1 84) (w.1 86) t) 0 fn)) := qh_j7 HA HS HL ht H1 fn am_N 0 (by omega) nf
  cases d7 : qs_all (qj_7 (w.1 84) (w.1 86) t) 0 fn
  · rw [d7] at c7
    simp (disch := omega) only [↓reduceIte, zJ_why, c1, c2, c3, c4, c5, c6, c7, Option.bind_some, qs_b0, qa_lit, Bool.true_eq_false, Bool.false_eq_true]
  rw [d7] at c7
  cases d8 : qj_8 (w.1 84) pn fn t
  · rw [d8] at c8
    simp (disch := omega) only [↓reduceIte, zJ_why, c1, c2, c3, c4, c5, c6, c7, c8, Option.bind_some, qs_b0, qa_lit, Bool.true_eq_false, Bool.false_eq_true]
  · rw [d8] at c8
    simp (disch := omega) only [↓reduceIte, zJ_why, c1, c2, c3, c4, c5, c6, c7, c8, Option.bind_some, qs_b0, qa_lit, Bool.true_eq_false, Bool.false_eq_true]
theorem qm_w1 (HA : qi_a L P pn fn tn bn (w.1 84)) (hP : P ≤ 8) {t : Nat} (ht : t < bn) : ∀ (k n f : Nat), f + k = fn → k < n → zM_whyNot_L2 n (nI t) (nI f) w = if qs_all (qj_1 (w.1 84) t) f k = false then some (nI 1, w) else ((zM_holdsTwo (nI t) w).bind fun r4 => if r4 = nI 0 then zM_whyNot_L41 am_N (nI t) (nI 0) w else some (nI 2, w))
  | 0, n + 1, f, hf, _ => by
    obtain ⟨a0, a1, a4, a6, lpn, lfn, ltn, lbn⟩ := HA.1
    simp (disch := omega) only [↓reduceIte, zM_whyNot_L2, a1, qa_ltF, qa_lit, qs_all, Bool.true_eq_false]
  | k + 1, n + 1, f, hf, hn => by
    obtain ⟨a0, a1, a4, a6, lpn, lfn, ltn, lbn⟩ := HA.1
    have ih := qm_w1 HA hP ht k n (f + 1) (by omega) (by omega)
    have e := qm_j1 HA hP ht (show f < fn by omega)
    unfold qs_all
    cases hj : qj_1 (w.1 84) t f
    · rw [hj] at e
      simp (disch := omega) only [↓reduceIte, zM_whyNot_L2, a1, qa_ltT, e, Option.bind_some, qs_b0, qa_lit, Bool.false_and]
    · rw [hj] at e
      simp (disch := omega) only [↓reduceIte, zM_whyNot_L2, a1, qa_ltT, e, Option.bind_some, qs_b0, qa_lit, Bool.true_and, Bool.true_eq_false, nI_add]
      exact ih
theorem qm_w3 (HA : qi_a L P pn fn tn bn (w.1 84)) (hP : P ≤ 8) {t : Nat} (ht : t < bn) (H1 : ∀ g, g < fn → qj_1 (w.1 84) t g = true) : ∀ (k n f : Nat), f + k = fn → k < n → zM_whyNot_L41 n (nI t) (nI f) w = if qs_all (qj_3 (w.1 84) t) f k = false then some (nI 3, w) else ((zM_crosses (nI t) w).bind fun r13 => if r13 = nI 0 then zM_whyNot_L99 am_N (nI t) (nI 0) w else some (nI 4, w))
  | 0, n + 1, f, hf, _ => by
    obtain ⟨a0, a1, a4, a6, lpn, lfn, ltn, lbn⟩ := HA.1
    simp (disch := omega) only [↓reduceIte, zM_whyNot_L41, a1, qa_ltF, qa_lit, qs_all, Bool.true_eq_false]
  | k + 1, n + 1, f, hf, hn => by
    obtain ⟨a0, a1, a4, a6, lpn, lfn, ltn, lbn⟩ := HA.1
    have ih := qm_w3 HA hP ht H1 k n (f + 1) (by omega) (by omega)
    obtain ⟨x1, x2, x3⟩ := qi_x HA ht (show f < fn by omega)
    have eh := qm_heldBy (w := w) (t := t) (f := f) (by omega) (by omega)
    have ep := qm_placeOf (w := w) (t := t) (f := f) (by omega) (by omega)
    rw [x1] at eh
    unfold qs_all qj_3
    cases ho : qs_on (w.1 84) t f
    · have hp : w.1 84 (50 + 6 * t + f) = qN := by
        rcases qi_pl HA hP ht (show f < fn by omega) with ⟨_, q⟩ | ⟨q, _⟩
        · exact q
        · rw [ho] at q; cases q
      rw [hp] at ep
      simp (disch := omega) only [↓reduceIte, zM_whyNot_L41, a1, qa_ltT, ep, Option.bind_some, qa_Nlt0, qa_lit, nI_add, Bool.not_false, Bool.true_or, Bool.true_and]
      exact ih
    · obtain ⟨p1, p2, p3⟩ := qi_plc HA hP ht (show f < fn by omega) ho
      rw [p1] at ep
      obtain ⟨j, hj, e, e0, l1, l2, l3, l4, l5⟩ := qj_hold HA ht (show f < fn by omega) ho (H1 f (by omega))
      have hst := qj_p2 lpn
      have k2 := (qi_kd HA (show f < fn by omega)).2
      have er := qm_reach HA hP (pl := qs_pl (w.1 84) t f) (x := qs_x (w.1 84) t f) p3 x3
      rw [← e, qs_ir_ho lpn (by omega) hst.1 hj (by rw [e]; exact e0), e] at er
      have er : zM_isInReach (nI (qs_pl (w.1 84) t f)) (nI (qs_x (w.1 84) t f)) w = some (qs_b (qs_rc (w.1 84) (qs_ow (w.1 84) f j) (qs_pl (w.1 84) t f))) := er
      rw [l1]
      cases hr : qs_rc (w.1 84) (qs_ow (w.1 84) f j) (qs_pl (w.1 84) t f)
      · rw [hr] at er
        simp (disch := omega) only [↓reduceIte, zM_whyNot_L41, a1, qa_ltT, qa_ltF, ep, eh, er, Option.bind_some, qa_lit, qs_b0, Bool.not_true, Bool.false_or, Bool.false_and]
      · rw [hr] at er
        simp (disch := omega) only [↓reduceIte, zM_whyNot_L41, a1, qa_ltT, qa_ltF, ep, eh, er, Option.bind_some, qa_lit, qs_b0, Bool.true_eq_false, nI_add, Bool.not_true, Bool.false_or, Bool.true_and]
        exact ih
theorem qm_w5 (HA : qi_a L P pn fn tn bn (w.1 84)) (hP : P ≤ 8) (hask : qk_askM w) {t : Nat} (ht : t < bn) (H1 : ∀ g, g < fn → qj_1 (w.1 84) t g = true) : ∀ (k n f : Nat) (u : zHM), f + k = fn → k < n → qf_s w u → ∃ u', zM_whyNot_L99 n (nI t) (nI f) u = (if qs_all (qj_5 (w.1 84) (w.1 86) t) f k = false then some (nI 5, u') else ((zM_areHung (nI t) u').bind fun r21 => if r21 = nI 0 then some (nI 6, u') else zM_whyNot_L154 am_N (nI t) (nI 0) u')) ∧ qf_s w u'
  | 0, n + 1, f, u, hf, _, fr => by
    obtain ⟨a0, a1, a4, a6, lpn, lfn, ltn, lbn⟩ := HA.1
    have b1 : u.1 84 1 = nI fn := by rw [fr 84 (by omega) (by omega)]; exact a1
    refine ⟨u, ?_, fr⟩
    simp (disch := omega) only [↓reduceIte, zM_whyNot_L99, b1, qa_ltF, qa_lit, qs_all, Bool.true_eq_false]
  | k + 1, n + 1, f, u, hf, hn, fr => by
    obtain ⟨a0, a1, a4, a6, lpn, lfn, ltn, lbn⟩ := HA.1
    have e84 := fr 84 (by omega) (by omega)
    have e86 := fr 86 (by omega) (by omega)
    have b1 : u.1 84 1 = nI fn := by rw [e84]; exact a1
    obtain ⟨x1, x2, x3⟩ := qi_x HA ht (show f < fn by omega)
    have eh := qm_heldBy (w := u) (t := t) (f := f) (by omega) (by omega)
    have ep := qm_placeOf (w := u) (t := t) (f := f) (by omega) (by omega)
    rw [e84] at eh ep
    rw [x1] at eh
    cases ho : qs_on (w.1 84) t f
    · have hp : w.1 84 (50 + 6 * t + f) = qN := by
        rcases qi_pl HA hP ht (show f < fn by omega) with ⟨_, q⟩ | ⟨q, _⟩
        · exact q
        · rw [ho] at q; cases q
      rw [hp] at ep
      obtain ⟨u', e, fr'⟩ := qm_w5 HA hP hask ht H1 k n (f + 1) u (by omega) (by omega) fr
      refine ⟨u', ?_, fr'⟩
      have ej : qj_5 (w.1 84) (w.1 86) t f = true := by unfold qj_5; rw [ho]; rfl
      unfold qs_all
      simp (disch := omega) only [↓reduceIte, zM_whyNot_L99, b1, qa_ltT, ep, Option.bind_some, qa_Nlt0, qa_lit, nI_add, ej, Bool.true_and]
      exact e
    · obtain ⟨p1, p2, p3⟩ := qi_plc HA hP ht (show f < fn by omega) ho
      rw [p1] at ep
      obtain ⟨j, hj, e, e0, l1, l2, l3, l4, l5⟩ := qj_hold HA ht (show f < fn by omega) ho (H1 f (by omega))
      obtain ⟨u1, c1, f1⟩ := qm_may (w := u) (x := qs_x (w.1 84) t f) (qi_a_s HA fr) hP (qk_askM_s hask fr) ht (show f < fn by omega) (by rw [e84]; exact ho) x3 (by omega)
      rw [e84, e86] at c1
      have ej : qj_5 (w.1 84) (w.1 86) t f = qs_law (w.1 84) (w.1 86) 0 t f (qs_lo (qs_x (w.1 84) t f) / 2) (if qs_bn (qs_x (w.1 84) t f) = 1 then qs_lo (qs_x (w.1 84) t f) % 2 else 0) := by unfold qj_5; rw [ho]; rfl
      have fr1 := fr.tr f1
      unfold qs_all
      cases hl : qs_law (w.1 84) (w.1 86) 0 t f (qs_lo (qs_x (w.1 84) t f) / 2) (if qs_bn (qs_x (w.1 84) t f) = 1 then qs_lo (qs_x (w.1 84) t f) % 2 else 0)
      · rw [hl] at c1 ej
        refine ⟨u1, ?_, fr1⟩
        simp (disch := omega) only [↓reduceIte, zM_whyNot_L99, b1, qa_ltT, qa_ltF, ep, eh, c1, Option.bind_some, qa_lit, qs_b0, ej, Bool.false_and]
      · rw [hl] at c1 ej
        obtain ⟨u', e, fr'⟩ := qm_w5 HA hP hask ht H1 k n (f + 1) u1 (by omega) (by omega) fr1
        refine ⟨u', ?_, fr'⟩
        simp (disch := omega) only [↓reduceIte, zM_whyNot_L99, b1, qa_ltT, qa_ltF, ep, eh, c1, Option.bind_some, qa_lit, qs_b0, Bool.true_eq_false, ej, Bool.true_and, nI_add]
        exact e
theorem qm_w7 (HA : qi_a L P pn fn tn bn (w.1 84)) (hP : P ≤ 8) (hask : qk_askM w) {t : Nat} (ht : t < bn) (H1 : ∀ g, g < fn → qj_1 (w.1 84) t g = true) : ∀ (k n f : Nat) (u : zHM), f + k = fn → k < n → qf_s w u → ∃ u', zM_whyNot_L154 n (nI t) (nI f) u = (if qs_all (qj_7 (w.1 84) (w.1 86) t) f k = false then some (nI 7, u') else zM_whyNot_L218 am_N (nI t) (nI 0) u') ∧ qf_s w u'
  | 0, n + 1, f, u, hf, _, fr => by
    obtain ⟨a0, a1, a4, a6, lpn, lfn, ltn, lbn⟩ := HA.1
    have b1 : u.1 84 1 = nI fn := by rw [fr 84 (by omega) (by omega)]; exact a1
    refine ⟨u, ?_, fr⟩
    simp (disch := omega) only [↓reduceIte, zM_whyNot_L154, b1, qa_ltF, qa_lit, qs_all, Bool.true_eq_false]
  | k + 1, n + 1, f, u, hf, hn, fr => by
    obtain ⟨a0, a1, a4, a6, lpn, lfn, ltn, lbn⟩ := HA.1
    have e84 := fr 84 (by omega) (by omega)
    have e86 := fr 86 (by omega) (by omega)
    have b1 : u.1 84 1 = nI fn := by rw [e84]; exact a1
    have esw := qm_isSwapped (w := u) (qi_a_s HA fr) hP ht (show f < fn by omega)
    rw [e84] at esw
    unfold qs_all
    cases hsw : qs_sw (w.1 84) t f
    · rw [hsw] at esw
      obtain ⟨u', e, fr'⟩ := qm_w7 HA hP hask ht H1 k n (f + 1) u (by omega) (by omega) fr
      refine ⟨u', ?_, fr'⟩
      have ej : qj_7 (w.1 84) (w.1 86) t f = true := by unfold qj_7; rw [hsw]; rfl
      simp (disch := omega) only [↓reduceIte, zM_whyNot_L154, b1, qa_ltT, esw, Option.bind_some, qs_b0, qa_lit, nI_add, ej, Bool.true_and]
      exact e
    · rw [hsw] at esw
      have hsw' := hsw
      unfold qs_sw at hsw'
      simp only [Bool.and_eq_true, decide_eq_true_eq] at hsw'
      obtain ⟨t0, on1, on2, hne⟩ := hsw'
      obtain ⟨v, rfl⟩ : ∃ v, t = v + 1 := ⟨t - 1, by omega⟩
      obtain ⟨x1, x2, x3⟩ := qi_x HA ht (show f < fn by omega)
      obtain ⟨y1, y2, y3⟩ := qi_x HA (t := v) (by omega) (show f < fn by omega)
      have eh := qm_heldBy (w := u) (t := v + 1) (f := f) (by omega) (by omega)
      have eh' := qm_heldBy (w := u) (t := v) (f := f) (by omega) (by omega)
      rw [e84] at eh eh'
      rw [x1] at eh
      rw [y1] at eh'
      have et : nI (v + 1) - nI 1 = nI v := by rw [qa_sub (by omega), Nat.add_sub_cancel]
      have ej : qj_7 (w.1 84) (w.1 86) (v + 1) f = (decide (qs_x (w.1 84) v f ≠ 0) && qs_law (w.1 84) (w.1 86) 1 (v + 1) f (qs_lo (qs_x (w.1 84) v f) / 2) (qs_lo (qs_x (w.1 84) (v + 1) f) / 2)) := by unfold qj_7; rw [hsw]; rfl
      by_cases h0 : qs_x (w.1 84) v f = 0
      · rw [decide_eq_false (fun q => q h0), Bool.false_and] at ej
        refine ⟨u, ?_, fr⟩
        simp (disch := omega) only [↓reduceIte, zM_whyNot_L154, b1, qa_ltT, esw, Option.bind_some, qs_b0, Bool.true_eq_false, qa_lit, et, eh', h0, ej, Bool.false_and]
      · rw [decide_eq_true h0, Bool.true_and] at ej
        obtain ⟨j, hj, e, e0, -⟩ := qj_hold HA ht (show f < fn by omega) on1 (H1 f (by omega))
        obtain ⟨u1, c1, f1⟩ := qm_mayPass (w := u) (x := qs_x (w.1 84) v f) (y := qs_x (w.1 84) (v + 1) f) (qi_a_s HA fr) hP (qk_askM_s hask fr) ht (show f < fn by omega) (by rw [e84]; exact on1) y3 (by omega) x3 (by omega)
        rw [e84, e86] at c1
        have fr1 := fr.tr f1
        cases hl : qs_law (w.1 84) (w.1 86) 1 (v + 1) f (qs_lo (qs_x (w.1 84) v f) / 2) (qs_lo (qs_x (w.1 84) (v + 1) f) / 2)
        · rw [hl] at c1 ej
          refine ⟨u1, ?_, fr1⟩
          simp (disch := omega) only [↓reduceIte, zM_whyNot_L154, b1, qa_ltT, esw, Option.bind_some, qs_b0, Bool.true_eq_false, qa_lit, et, eh, eh', qa_eqF, c1, ej, Bool.false_and]
        · rw [hl] at c1 ej
          obtain ⟨u', e, fr'⟩ := qm_w7 HA hP hask ht H1 k n (f + 1) u1 (by omega) (by omega) fr1
          refine ⟨u', ?_, fr'⟩
          simp (disch := omega) only [↓reduceIte, zM_whyNot_L154, b1, qa_ltT, esw, Option.bind_some, qs_b0, Bool.true_eq_false, qa_lit, et, eh, eh', qa_eqF, c1, ej, Bool.true_and, nI_add]
          exact e
theorem qm_why (HA : qi_a L P pn fn tn bn (w.1 84)) (hP : P ≤ 8) (hask : qk_askM w) (e2 : ∀ p, p < pn → w.1 84 (10 + 2 * p) = nI (hm p) ∧ hm p < 8) {t : Nat} (ht : t < bn) : ∃ u, zM_whyNot (nI t) w = some (nI (qj_why (w.1 84) (w.1 86) (qs_or hm pn) pn fn t), u) ∧ qf_s w u := by
  obtain ⟨a0, a1, a4, a6, lpn, lfn, ltn, lbn⟩ := id HA.1
  obtain ⟨lm, hl, e3⟩ := HA.2.2.1
  have nf : fn < am_N := Nat.lt_of_le_of_lt lfn (by decide)
  have n2 : 2 * pn < am_N := Nat.lt_of_le_of_lt (show 2 * pn ≤ 6 by omega) (by decide)
  have m1 : zM_whyNot (nI t) w = _ := qm_w1 HA hP ht fn am_N 0 (by omega) nf
  rw [m1]
  unfold qj_why
  cases d1 : qs_all (qj_1 (w.1 84) t) 0 fn
  · exact ⟨w, by simp only [↓reduceIte], qf_s.rf w⟩
  have H1 := qs_all_of d1
  have m2 : zM_holdsTwo (nI t) w = some (qs_b (!qs_all (qj_2 (w.1 84) t) 0 fn)) := qm_j2 HA ht fn am_N 0 (by omega) nf
  cases d2 : qs_all (qj_2 (w.1 84) t) 0 fn
  · rw [d2] at m2
    exact ⟨w, by simp only [↓reduceIte, m2, Option.bind_some, Bool.not_false, qs_b0, Bool.true_eq_false], qf_s.rf w⟩
  rw [d2] at m2
  have H2 := qs_all_of d2
  have m3 := qm_w3 HA hP ht H1 fn am_N 0 (by omega) nf
  cases d3 : qs_all (qj_3 (w.1 84) t) 0 fn
  · rw [d3] at m3
    exact ⟨w, by simp only [↓reduceIte, m2, m3, Option.bind_some, Bool.not_true, qs_b0, Bool.true_eq_false], qf_s.rf w⟩
  rw [d3] at m3
  have m4 : zM_crosses (nI t) w = some (qs_b (qj_4 (qs_or hm pn) (w.1 84) fn t)) := by
    rw [qj_cross HA ht H1 H2]
    exact qm_crO HA hP e2 ht (2 * pn) am_N 0 (by omega) n2
  cases d4 : qj_4 (qs_or hm pn) (w.1 84) fn t
  rotate_left
  · rw [d4] at m4
    exact ⟨w, by simp only [↓reduceIte, m2, m3, m4, Option.bind_some, Bool.not_true, qs_b0, Bool.true_eq_false], qf_s.rf w⟩
  rw [d4] at m4
  obtain ⟨u1, m5, f1⟩ := qm_w5 HA hP hask ht H1 fn am_N 0 w (by omega) nf (qf_s.rf w)
  cases d5 : qs_all (qj_5 (w.1 84) (w.1 86) t) 0 fn
  · rw [d5] at m5
    exact ⟨u1, by simp only [↓reduceIte, m2, m3, m4, m5, Option.bind_some, Bool.not_true, qs_b0, Bool.true_eq_false, Bool.false_eq_true], f1⟩
  rw [d5] at m5
  have e84 := f1 84 (by omega) (by omega)
  have m6 : zM_areHung (nI t) u1 = some (qs_b (qj_6 (w.1 84) pn fn t)) := by
    have e := qm_j6 (w := u1) (qi_a_s HA f1) hP ht (by rw [e84]; exact H2) fn am_N 0 0 (by omega) nf (by omega)
    have z0 : qs_bn (qs_by (w.1 84) t 0) = 0 := by
      rw [show qs_by (w.1 84) t 0 = 0 from rfl]
      decide
    rw [e84, Nat.zero_add, z0, Nat.sub_zero] at e
    have b0 : u1.1 84 0 = nI pn := by rw [e84]; exact a0
    unfold zM_areHung zM_hands
    simp only [qa_b, b0, qa_lit, pk_mul]
    refine e.trans ?_
    unfold qj_6 qs_b
    by_cases hc : nI (2 * pn - qs_bn (qs_by (w.1 84) t fn)) < nI (qj_of (w.1 84) t 0 fn) - w.1 84 2
    · rw [if_pos hc, decide_eq_false (fun q => q hc)]; rfl
    · rw [if_neg hc, decide_eq_true hc]; rfl
  cases d6 : qj_6 (w.1 84) pn fn t
  · rw [d6] at m6
    exact ⟨u1, by simp only [↓reduceIte, m2, m3, m4, m5, m6, Option.bind_some, Bool.not_true, qs_b0, Bool.true_eq_false, Bool.false_eq_true], f1⟩
  rw [d6] at m6
  obtain ⟨u2, m7, f2⟩ := qm_w7 HA hP hask ht H1 fn am_N 0 u1 (by omega) nf f1
  cases d7 : qs_all (qj_7 (w.1 84) (w.1 86) t) 0 fn
  · rw [d7] at m7
    exact ⟨u2, by simp only [↓reduceIte, m2, m3, m4, m5, m6, m7, Option.bind_some, Bool.not_true, qs_b0, Bool.true_eq_false, Bool.false_eq_true], f2⟩
  rw [d7] at m7
  have e842 := f2 84 (by omega) (by omega)
  have m8 : zM_whyNot_L218 am_N (nI t) (nI 0) u2 = if qj_8 (w.1 84) pn fn t = false then some (nI 8, u2) else some (nI 0, u2) := by
    have b3 : u2.1 84 3 = nI lm := by rw [e842]; exact e3
    have b0 : u2.1 84 0 = nI pn := by rw [e842]; exact a0
    by_cases h0 : lm = 0
    · subst h0
      have : qj_8 (w.1 84) pn fn t = true := by unfold qj_8; rw [decide_eq_true e3, Bool.true_or]
      rw [this]
      have key : ∀ n, zM_whyNot_L218 (n + 1) (nI t) (nI 0) u2 = some (nI 0, u2) := fun n => by
        by_cases hp : pn = 0
        · subst hp
          simp (disch := omega) only [↓reduceIte, ↓qa_b, zM_whyNot_L218, zM_hands, b0, pk_mul, qa_ltF, qa_lit]
        · simp (disch := omega) only [↓reduceIte, ↓qa_b, zM_whyNot_L218, zM_hands, b0, b3, pk_mul, qa_ltT, qa_ltF, qa_lit]
      have en : am_N = 999999 + 1 := by decide
      rw [en]
      simp only [Bool.true_eq_false, if_false]
      exact key 999999
    · have e := qm_j8 (w := u2) (qi_a_s HA f2) ht (by omega) hl b3 (2 * pn) am_N 0 (by omega) n2
      rw [e842] at e
      have : qj_8 (w.1 84) pn fn t = qs_all (fun hd => decide (¬ w.1 84 3 < nI (qs_rn (w.1 84) fn hd t))) 0 (2 * pn) := by
        unfold qj_8
        rw [decide_eq_false (fun q => by rw [e3, qa_eqE (by omega) (by omega)] at q; exact h0 q), Bool.false_or]
      rw [this, e]
      cases qs_all (fun hd => decide (¬ w.1 84 3 < nI (qs_rn (w.1 84) fn hd t))) 0 (2 * pn) <;> simp
  cases d8 : qj_8 (w.1 84) pn fn t
  · rw [d8] at m8
    exact ⟨u2, by simp only [↓reduceIte, m2, m3, m4, m5, m6, m7, m8, Option.bind_some, Bool.not_true, qs_b0, Bool.true_eq_false, Bool.false_eq_true], f2⟩
  · rw [d8] at m8
    exact ⟨u2, by simp only [↓reduceIte, m2, m3, m4, m5, m6, m7, m8, Option.bind_some, Bool.not_true, qs_b0, Bool.true_eq_false, Bool.false_eq_true], f2⟩
theorem qo_judgeL (HA : qi_a L P pn fn tn bn (w.1 84)) (hP : P ≤ 8) (hask : qk_askM w) (HS : qi_stg 0 P pn fn tn bn h (w.1 84)) (HL : qk_L (w.1 84) (w.1 86) pn fn bn h) (e2 : ∀ p, p < pn → h 2 p = nI (hm p) ∧ hm p < 8) (e2' : ∀ p, p < pn → w.1 84 (10 + 2 * p) = nI (hm p) ∧ hm p < 8) {x : Nat} (hx : x < 2) : ∀ (k n t : Nat) (u : zHM), t + k = bn → k < n → qf_s w u → ∃ r u', zH_judge_L28 n (nI x) (nI t) h = some (r, h) ∧ zM_judge_L13 n (nI x) (nI t) u = some (r, u') ∧ qf_s w u'
  | 0, n + 1, t, u, ht, _, fr => by
    obtain ⟨a0, a1, a4, a6, lpn, lfn, ltn, lbn⟩ := HA.1
    have s13 := (qi_stg0 HS).1.2.2.2.2.2.2.2
    have b6 : u.1 84 6 = nI bn := by rw [fr 84 (by omega) (by omega)]; exact a6
    by_cases h0 : x = 0
    · refine ⟨qN, u, ?_, ?_, fr⟩
      · simp (disch := omega) only [↓reduceIte, ↓qa_b, qa_b, qa_lit, qa_neg1, qa_qN, nI_add, pk_mul, qa_ix, qa_cl, qa_ltT, qa_ltF, qa_eqT, qa_eqF, qa_nN, qa_Nn, qa_ltN, qa_Nlt, qa_NN, qa_ltNN, qa_sub, qa_dec, qa_dec0, qa_sub0, qa_incN, qa_31, qa_shr, qa_shl, qa_and1, va_up_self, qa_une, pk_us, pk_un, qa_up2, qa_upd2, Option.bind_some, if_true, if_false, and_true, true_and, and_self, qa_f1, qa_f2, zH_judge_L28, s13]
      · simp (disch := omega) only [↓reduceIte, ↓qa_b, qa_b, qa_lit, qa_neg1, qa_qN, nI_add, pk_mul, qa_ix, qa_cl, qa_ltT, qa_ltF, qa_eqT, qa_eqF, qa_nN, qa_Nn, qa_ltN, qa_Nlt, qa_NN, qa_ltNN, qa_sub, qa_dec, qa_dec0, qa_sub0, qa_incN, qa_31, qa_shr, qa_shl, qa_and1, va_up_self, qa_une, pk_us, pk_un, qa_up2, qa_upd2, Option.bind_some, if_true, if_false, and_true, true_and, and_self, qa_f1, qa_f2, zM_judge_L13, b6]
    · refine ⟨nI 0, u, ?_, ?_, fr⟩
      · simp (disch := omega) only [↓reduceIte, ↓qa_b, qa_b, qa_lit, qa_neg1, qa_qN, nI_add, pk_mul, qa_ix, qa_cl, qa_ltT, qa_ltF, qa_eqT, qa_eqF, qa_nN, qa_Nn, qa_ltN, qa_Nlt, qa_NN, qa_ltNN, qa_sub, qa_dec, qa_dec0, qa_sub0, qa_incN, qa_31, qa_shr, qa_shl, qa_and1, va_up_self, qa_une, pk_us, pk_un, qa_up2, qa_upd2, Option.bind_some, if_true, if_false, and_true, true_and, and_self, qa_f1, qa_f2, zH_judge_L28, s13]
      · simp (disch := omega) only [↓reduceIte, ↓qa_b, qa_b, qa_lit, qa_neg1, qa_qN, nI_add, pk_mul, qa_ix, qa_cl, qa_ltT, qa_ltF, qa_eqT, qa_eqF, qa_nN, qa_Nn, qa_ltN, qa_Nlt, qa_NN, qa_ltNN, qa_sub, qa_dec, qa_dec0, qa_sub0, qa_incN, qa_31, qa_shr, qa_shl, qa_and1, va_up_self, qa_une, pk_us, pk_un, qa_up2, qa_upd2, Option.bind_some, if_true, if_false, and_true, true_and, and_self, qa_f1, qa_f2, zM_judge_L13, b6]
  | k + 1, n + 1, t, u, ht, hn, fr => by
    obtain ⟨a0, a1, a4, a6, lpn, lfn, ltn, lbn⟩ := HA.1
    have s13 := (qi_stg0 HS).1.2.2.2.2.2.2.2
    have e84 := fr 84 (by omega) (by omega)
    have e86 := fr 86 (by omega) (by omega)
    have b6 : u.1 84 6 = nI bn := by rw [e84]; exact a6
    have w1 := qh_why HA HS HL e2 (show t < bn by omega)
    obtain ⟨u1, w2, f1⟩ := qm_why (w := u) (hm := hm) (qi_a_s HA fr) hP (qk_askM_s hask fr) (by rw [e84]; exact e2') (show t < bn by omega)
    rw [e84, e86] at w2
    have fr1 := fr.tr f1
    have wl : qj_why (w.1 84) (w.1 86) (qs_or hm pn) pn fn t < 9 := by
      unfold qj_why
      repeat' split
      all_goals omega
    by_cases h0 : qj_why (w.1 84) (w.1 86) (qs_or hm pn) pn fn t = 0
    · obtain ⟨r, u', y1, y2, y3⟩ := qo_judgeL HA hP hask HS HL e2 e2' hx k n (t + 1) u1 (by omega) (by omega) fr1
      rw [h0] at w1 w2
      refine ⟨r, u', ?_, ?_, y3⟩
      · simp (disch := omega) only [↓reduceIte, ↓qa_b, qa_b, qa_lit, qa_neg1, qa_qN, nI_add, pk_mul, qa_ix, qa_cl, qa_ltT, qa_ltF, qa_eqT, qa_eqF, qa_nN, qa_Nn, qa_ltN, qa_Nlt, qa_NN, qa_ltNN, qa_sub, qa_dec, qa_dec0, qa_sub0, qa_incN, qa_31, qa_shr, qa_shl, qa_and1, va_up_self, qa_une, pk_us, pk_un, qa_up2, qa_upd2, Option.bind_some, if_true, if_false, and_true, true_and, and_self, qa_f1, qa_f2, zH_judge_L28, s13, w1]
        exact y1
      · simp (disch := omega) only [↓reduceIte, ↓qa_b, qa_b, qa_lit, qa_neg1, qa_qN, nI_add, pk_mul, qa_ix, qa_cl, qa_ltT, qa_ltF, qa_eqT, qa_eqF, qa_nN, qa_Nn, qa_ltN, qa_Nlt, qa_NN, qa_ltNN, qa_sub, qa_dec, qa_dec0, qa_sub0, qa_incN, qa_31, qa_shr, qa_shl, qa_and1, va_up_self, qa_une, pk_us, pk_un, qa_up2, qa_upd2, Option.bind_some, if_true, if_false, and_true, true_and, and_self, qa_f1, qa_f2, zM_judge_L13, b6, w2]
        exact y2
    · by_cases hx0 : x = 0
      · refine ⟨nI t, u1, ?_, ?_, fr1⟩
        · simp (disch := omega) only [↓reduceIte, ↓qa_b, qa_b, qa_lit, qa_neg1, qa_qN, nI_add, pk_mul, qa_ix, qa_cl, qa_ltT, qa_ltF, qa_eqT, qa_eqF, qa_nN, qa_Nn, qa_ltN, qa_Nlt, qa_NN, qa_ltNN, qa_sub, qa_dec, qa_dec0, qa_sub0, qa_incN, qa_31, qa_shr, qa_shl, qa_and1, va_up_self, qa_une, pk_us, pk_un, qa_up2, qa_upd2, Option.bind_some, if_true, if_false, and_true, true_and, and_self, qa_f1, qa_f2, zH_judge_L28, s13, w1]
        · simp (disch := omega) only [↓reduceIte, ↓qa_b, qa_b, qa_lit, qa_neg1, qa_qN, nI_add, pk_mul, qa_ix, qa_cl, qa_ltT, qa_ltF, qa_eqT, qa_eqF, qa_nN, qa_Nn, qa_ltN, qa_Nlt, qa_NN, qa_ltNN, qa_sub, qa_dec, qa_dec0, qa_sub0, qa_incN, qa_31, qa_shr, qa_shl, qa_and1, va_up_self, qa_une, pk_us, pk_un, qa_up2, qa_upd2, Option.bind_some, if_true, if_false, and_true, true_and, and_self, qa_f1, qa_f2, zM_judge_L13, b6, w2]
      · refine ⟨nI (qj_why (w.1 84) (w.1 86) (qs_or hm pn) pn fn t), u1, ?_, ?_, fr1⟩
        · simp (disch := omega) only [↓reduceIte, ↓qa_b, qa_b, qa_lit, qa_neg1, qa_qN, nI_add, pk_mul, qa_ix, qa_cl, qa_ltT, qa_ltF, qa_eqT, qa_eqF, qa_nN, qa_Nn, qa_ltN, qa_Nlt, qa_NN, qa_ltNN, qa_sub, qa_dec, qa_dec0, qa_sub0, qa_incN, qa_31, qa_shr, qa_shl, qa_and1, va_up_self, qa_une, pk_us, pk_un, qa_up2, qa_upd2, Option.bind_some, if_true, if_false, and_true, true_and, and_self, qa_f1, qa_f2, zH_judge_L28, s13, w1]
        · simp (disch := omega) only [↓reduceIte, ↓qa_b, qa_b, qa_lit, qa_neg1, qa_qN, nI_add, pk_mul, qa_ix, qa_cl, qa_ltT, qa_ltF, qa_eqT, qa_eqF, qa_nN, qa_Nn, qa_ltN, qa_Nlt, qa_NN, qa_ltNN, qa_sub, qa_dec, qa_dec0, qa_sub0, qa_incN, qa_31, qa_shr, qa_shl, qa_and1, va_up_self, qa_une, pk_us, pk_un, qa_up2, qa_upd2, Option.bind_some, if_true, if_false, and_true, true_and, and_self, qa_f1, qa_f2, zM_judge_L13, b6, w2]
end
section
variable {k P pn fn tn bn pn' fn' tn' bn' tl : Nat} {h : Nat → Nat → Int32} {w : zHM}
theorem qo_judge (H : qi_core k P pn fn tn bn pn' fn' tn' bn' tl h w) (hc : h 59 2 = nI 0 ∨ h 59 2 = nI 1 ∧ qk_L (w.1 84) (w.1 86) pn fn bn h) (v1 : Int32) : ∃ r h' w', zH_judge v1 h = some (r, h') ∧ zM_judge v1 w = some (r, w') ∧ qi_scr h w h' w' ∧ (h' 59 2 = nI 0 ∨ h' 59 2 = nI 1 ∧ qk_L (w.1 84) (w.1 86) pn fn bn h') ∧ (∀ c, 65 ≤ c → h' c = h c) := by
  obtain ⟨⟨x, hru, hx, hakH⟩, hakM⟩ := qk_ask H
  obtain ⟨hm, hm1, hm2⟩ := qi_homes H
  obtain ⟨⟨hP3, hP8, hP, htn⟩, HA, -, HS, -⟩ := id H
  obtain ⟨a0, a1, a4, a6, lpn, lfn, ltn, lbn⟩ := id HA.1
  have no : qi_scr h w h w := ⟨fun _ _ => rfl, fun _ _ => rfl, fun _ _ _ => rfl⟩
  rcases qa_arg v1 2 with hv | ⟨y, hy, hy', rfl⟩ | ⟨y, hy, hy', rfl⟩
  · refine ⟨qN, h, w, ?_, ?_, no, hc, fun _ _ => rfl⟩
    · simp (disch := omega) only [↓reduceIte, ↓qa_b, qa_b, qa_lit, qa_neg1, qa_qN, nI_add, pk_mul, qa_ix, qa_cl, qa_ltT, qa_ltF, qa_eqT, qa_eqF, qa_nN, qa_Nn, qa_ltN, qa_Nlt, qa_NN, qa_ltNN, qa_sub, qa_dec, qa_dec0, qa_sub0, qa_incN, qa_31, qa_shr, qa_shl, qa_and1, va_up_self, qa_une, pk_us, pk_un, qa_up2, qa_upd2, Option.bind_some, if_true, if_false, and_true, true_and, and_self, qa_f1, qa_f2, zH_judge, hv]
    · simp (disch := omega) only [↓reduceIte, ↓qa_b, qa_b, qa_lit, qa_neg1, qa_qN, nI_add, pk_mul, qa_ix, qa_cl, qa_ltT, qa_ltF, qa_eqT, qa_eqF, qa_nN, qa_Nn, qa_ltN, qa_Nlt, qa_NN, qa_ltNN, qa_sub, qa_dec, qa_dec0, qa_sub0, qa_incN, qa_31, qa_shr, qa_shl, qa_and1, va_up_self, qa_une, pk_us, pk_un, qa_up2, qa_upd2, Option.bind_some, if_true, if_false, and_true, true_and, and_self, qa_f1, qa_f2, zM_judge, zM_isIn, hv]
  · refine ⟨qN, h, w, ?_, ?_, no, hc, fun _ _ => rfl⟩
    · simp (disch := omega) only [↓reduceIte, ↓qa_b, qa_b, qa_lit, qa_neg1, qa_qN, nI_add, pk_mul, qa_ix, qa_cl, qa_ltT, qa_ltF, qa_eqT, qa_eqF, qa_nN, qa_Nn, qa_ltN, qa_Nlt, qa_NN, qa_ltNN, qa_sub, qa_dec, qa_dec0, qa_sub0, qa_incN, qa_31, qa_shr, qa_shl, qa_and1, va_up_self, qa_une, pk_us, pk_un, qa_up2, qa_upd2, Option.bind_some, if_true, if_false, and_true, true_and, and_self, qa_f1, qa_f2, zH_judge]
    · simp (disch := omega) only [↓reduceIte, ↓qa_b, qa_b, qa_lit, qa_neg1, qa_qN, nI_add, pk_mul, qa_ix, qa_cl, qa_ltT, qa_ltF, qa_eqT, qa_eqF, qa_nN, qa_Nn, qa_ltN, qa_Nlt, qa_NN, qa_ltNN, qa_sub, qa_dec, qa_dec0, qa_sub0, qa_incN, qa_31, qa_shr, qa_shl, qa_and1, va_up_self, qa_une, pk_us, pk_un, qa_up2, qa_upd2, Option.bind_some, if_true, if_false, and_true, true_and, and_self, qa_f1, qa_f2, zM_judge, zM_isIn]
  · obtain ⟨h1, el, f1, f2, f3, HL⟩ := qk_learn HA hP8 hx HS hakH hc
    have HS1 := qi_stg_h (h' := h1) (fun c _ hc => f1 c (by omega)) HS
    obtain ⟨r, u', y1, y2, y3⟩ := qo_judgeL (hm := hm) HA hP8 hakM HS1 HL (fun p hp => by rw [f1 2 (by omega)]; exact hm1 p hp) hm2 hy bn am_N 0 w (by omega) (Nat.lt_of_le_of_lt lbn (by decide)) (qf_s.rf w)
    refine ⟨r, h1, u', ?_, ?_, ⟨fun c hc => f1 c (by omega), fun c hc => y3 c (by omega) (by omega), fun j _ _ => by rw [y3 83 (by omega) (by omega)]⟩, Or.inr ⟨f3, HL⟩, f2⟩
    · simp (disch := omega) only [↓reduceIte, ↓qa_b, qa_b, qa_lit, qa_neg1, qa_qN, nI_add, pk_mul, qa_ix, qa_cl, qa_ltT, qa_ltF, qa_eqT, qa_eqF, qa_nN, qa_Nn, qa_ltN, qa_Nlt, qa_NN, qa_ltNN, qa_sub, qa_dec, qa_dec0, qa_sub0, qa_incN, qa_31, qa_shr, qa_shl, qa_and1, va_up_self, qa_une, pk_us, pk_un, qa_up2, qa_upd2, Option.bind_some, if_true, if_false, and_true, true_and, and_self, qa_f1, qa_f2, zH_judge, hru, el]
      exact y1
    · simp (disch := omega) only [↓reduceIte, ↓qa_b, qa_b, qa_lit, qa_neg1, qa_qN, nI_add, pk_mul, qa_ix, qa_cl, qa_ltT, qa_ltF, qa_eqT, qa_eqF, qa_nN, qa_Nn, qa_ltN, qa_Nlt, qa_NN, qa_ltNN, qa_sub, qa_dec, qa_dec0, qa_sub0, qa_incN, qa_31, qa_shr, qa_shl, qa_and1, va_up_self, qa_une, pk_us, pk_un, qa_up2, qa_upd2, Option.bind_some, if_true, if_false, and_true, true_and, and_self, qa_f1, qa_f2, zM_judge, zM_isIn]
      exact y2
end
