/-! THE HEART: judge: reach, may, passes -/
theorem qj_ex' : ∀ pn, pn < 4 → ∀ kd, kd < 3 → ∀ x, x < 64 → (4 ^ pn ≤ x ∨ qj_w kd x = false ∨ ∃ k, k < 6 ∧ (qs_ho kd (2 ^ pn - 1) k = x ∧ x ≠ 0)) := by decide +kernel
theorem qj_ex {pn kd x : Nat} (hp : pn ≤ 3) (hk : kd ≤ 2) (hx : x < 4 ^ pn) (hx6 : x < 64) (hw : qj_w kd x = true) : ∃ k, k < 6 ∧ qs_ho kd (2 ^ pn - 1) k = x ∧ x ≠ 0 := by
  rcases qj_ex' pn (by omega) kd (by omega) x hx6 with h | h | h
  · omega
  · rw [hw] at h; cases h
  · exact h
theorem qj_hb : ∀ kd, kd < 3 → ∀ st, st < 8 → ∀ k, k < 6 → qs_ho kd st k ≠ 0 → (if kd = 2 then 2 ^ qs_oh (qs_ho kd st k) else qs_ho kd st k) = 2 ^ k := by decide +kernel
theorem qj_p2 {pn : Nat} (hp : pn ≤ 3) : 2 ^ pn - 1 < 2 ^ pn ∧ 2 ^ pn - 1 < 8 := by
  rcases (show pn = 0 ∨ pn = 1 ∨ pn = 2 ∨ pn = 3 by omega) with rfl | rfl | rfl | rfl <;> decide
theorem qj_and {x k : Nat} (hx : x < 64) (hk : k < 6) : (nI x &&& nI (2 ^ k) = nI 0) = (x.testBit k = false) := by
  have p1 : 2 ^ k ≤ 2 ^ 5 := Nat.pow_le_pow_right (by omega) (by omega)
  have l : x &&& 2 ^ k < 64 := Nat.lt_of_le_of_lt Nat.and_le_left hx
  rw [fa_and, qa_eqE (by omega) (by omega)]
  exact propext (fb_bit_nat x k)
section
variable {L P pn fn tn bn : Nat} {h : Nat → Nat → Int32} {w : zHM}
/-- a figure that is on and held as it wants: by a hold -/
theorem qj_hold (HA : qi_a L P pn fn tn bn (w.1 84)) {t f : Nat} (ht : t < bn) (hf : f < fn) (ho : qs_on (w.1 84) t f = true) (h1 : qj_1 (w.1 84) t f = true) : ∃ k, k < 6 ∧ qs_ho (qs_kd (w.1 84) f) (2 ^ pn - 1) k = qs_x (w.1 84) t f ∧ qs_x (w.1 84) t f ≠ 0 ∧ qs_lo (qs_x (w.1 84) t f) / 2 = qs_ow (w.1 84) f k ∧ (if qs_bn (qs_x (w.1 84) t f) = 1 then qs_lo (qs_x (w.1 84) t f) % 2 else 0) = qs_rt (w.1 84) f k ∧ k < qs_hn (w.1 84) pn f ∧ (if qs_kd (w.1 84) f = 2 then 2 ^ qs_oh (qs_x (w.1 84) t f) else qs_x (w.1 84) t f) = 2 ^ k ∧ qs_ow (w.1 84) f k < pn := by
  obtain ⟨a0, a1, a4, a6, lpn, lfn, ltn, lbn⟩ := HA.1
  obtain ⟨x1, x2, x3⟩ := qi_x HA ht hf
  obtain ⟨k1, k2⟩ := qi_kd HA hf
  have hw : qj_w (qs_kd (w.1 84) f) (qs_x (w.1 84) t f) = true := by
    unfold qj_1 at h1
    rw [ho] at h1
    simpa using h1
  obtain ⟨k, hk, e, e0⟩ := qj_ex lpn k2 x2 x3 hw
  have hst := qj_p2 lpn
  have h0 : qs_ho (qs_kd (w.1 84) f) (2 ^ pn - 1) k ≠ 0 := by rw [e]; exact e0
  have l1 := qs_ho_lo (qs_kd (w.1 84) f) (by omega) (2 ^ pn - 1) hst.2 k hk h0
  have l2 := qs_ho_st (qs_kd (w.1 84) f) (by omega) (2 ^ pn - 1) hst.2 k hk h0
  have l3 := qj_hb (qs_kd (w.1 84) f) (by omega) (2 ^ pn - 1) hst.2 k hk h0
  have l4 := (qs_set_tb pn (by omega) (2 ^ pn - 1) hst.1).2 _ l2.2 l2.1
  rw [e] at l1 l3
  refine ⟨k, hk, e, e0, l1.1, l1.2, ?_, l3, l4⟩
  unfold qs_hn
  split at l4 <;> rename_i hc
  · rw [if_pos hc]; exact l4
  · rw [if_neg hc]; omega
theorem qh_j3 (HA : qi_a L P pn fn tn bn (w.1 84)) (HS : qi_stg 0 P pn fn tn bn h (w.1 84)) (HL : qk_L (w.1 84) (w.1 86) pn fn bn h) {t : Nat} (ht : t < bn) (H1 : ∀ g, g < fn → qj_1 (w.1 84) t g = true) : ∀ (k n f : Nat), f + k = fn → k < n → zJ_isEachAmong_L3 n (nI t) (nI 1) (nI f) h = some (qs_b (qs_all (qj_3 (w.1 84) t) f k))
  | 0, n + 1, f, hf, _ => by
    obtain ⟨a0, a1, a4, a6, lpn, lfn, ltn, lbn⟩ := HA.1
    have s4 := (qi_stg0 HS).1.2.2.1
    simp (disch := omega) only [↓reduceIte, ↓qa_b, qa_b, qa_lit, qa_neg1, qa_qN, nI_add, pk_mul, qa_ix, qa_cl, qa_ltT, qa_ltF, qa_eqT, qa_eqF, qa_nN, qa_Nn, qa_ltN, qa_Nlt, qa_NN, qa_ltNN, qa_sub, qa_dec, qa_dec0, qa_sub0, qa_incN, qa_31, qa_shr, qa_shl, qa_and1, va_up_self, qa_une, pk_us, pk_un, qa_up2, qa_upd2, Option.bind_some, if_true, if_false, and_true, true_and, and_self, qa_f1, qa_f2, zJ_isEachAmong_L3, s4, qs_all]
    rfl
  | k + 1, n + 1, f, hf, hn => by
    obtain ⟨a0, a1, a4, a6, lpn, lfn, ltn, lbn⟩ := HA.1
    have s4 := (qi_stg0 HS).1.2.2.1
    have ih := qh_j3 HA HS HL ht H1 k n (f + 1) (by omega) (by omega)
    obtain ⟨x1, x2, x3⟩ := qi_x HA ht (show f < fn by omega)
    obtain ⟨k1, k2⟩ := qi_kd HA (show f < fn by omega)
    have s9 := ((qi_stg0 HS).2.2.2.2.1 t f ht (by omega)).2
    have sk := ((qi_stg0 HS).2.2.1 f (by omega)).1
    rw [x1] at s9
    rw [k1] at sk
    have eon := qh_isOn HA HS ht (show f < fn by omega)
    have eow := qh_owner x3
    obtain ⟨xn, xf, xp, o1, o2, o3, o4, o5, o6, o7, o8, o9⟩ := HL t ht f (by omega)
    unfold qs_all qj_3
    cases ho : qs_on (w.1 84) t f
    · rw [ho] at eon
      simp only [Bool.not_false, Bool.true_or, Bool.true_and]
      simp (disch := omega) only [↓reduceIte, zJ_isEachAmong_L3, s4, qa_ltT, eon, Option.bind_some, qs_b0, qa_lit, nI_add]
      exact ih
    · rw [ho] at eon o7
      obtain ⟨j, hj, e, e0, l1, l2, l3, l4, l5⟩ := qj_hold HA ht (show f < fn by omega) ho (H1 f (by omega))
      simp only [Bool.not_true, Bool.false_or]
      rw [l1]
      have hb : xn.testBit j = qs_rc (w.1 84) (qs_ow (w.1 84) f j) (qs_pl (w.1 84) t f) := by
        rw [o7 j hj, Bool.true_and]
        unfold qs_nr
        rw [decide_eq_true l3, Bool.true_and]
      have ea := qj_and o4 hj
      rw [hb] at ea
      have ol := qj_ohl _ x3
      have eS := qa_1shl (i := qs_oh (qs_x (w.1 84) t f)) (by omega)
      have step : zJ_isEachAmong_L3 (n + 1) (nI t) (nI 1) (nI f) h = if qs_rc (w.1 84) (qs_ow (w.1 84) f j) (qs_pl (w.1 84) t f) = false then some (nI 0) else zJ_isEachAmong_L3 n (nI t) (nI 1) (nI (f + 1)) h := by
        by_cases hc : qs_kd (w.1 84) f = 2
        · rw [if_pos hc] at l4
          rw [hc] at sk
          simp (disch := omega) only [↓reduceIte, ↓qa_b, zJ_isEachAmong_L3, zJ_isEachAmong_J59, zJ_isEachAmong_J82, zL_nearing, s4, qa_ltT, eon, Option.bind_some, qs_b0, Bool.true_eq_false, qa_lit, nI_add, pk_mul, qa_ix, qa_cl, s9, sk, qa_eqT, qa_eqF, eow, qa_31, eS, l4, o1, ea]
        · rw [if_neg hc] at l4
          rw [l4] at s9
          simp (disch := omega) only [↓reduceIte, ↓qa_b, zJ_isEachAmong_L3, zJ_isEachAmong_J59, zJ_isEachAmong_J82, zL_nearing, s4, qa_ltT, eon, Option.bind_some, qs_b0, Bool.true_eq_false, qa_lit, nI_add, pk_mul, qa_ix, qa_cl, s9, sk, qa_eqF, o1, ea]
      rw [step]
      cases hr : qs_rc (w.1 84) (qs_ow (w.1 84) f j) (qs_pl (w.1 84) t f)
      · simp only [if_true, Bool.false_and]
        rfl
      · simp only [Bool.true_eq_false, if_false, Bool.true_and]
        exact ih
theorem qh_j5 (HA : qi_a L P pn fn tn bn (w.1 84)) (HS : qi_stg 0 P pn fn tn bn h (w.1 84)) (HL : qk_L (w.1 84) (w.1 86) pn fn bn h) {t : Nat} (ht : t < bn) (H1 : ∀ g, g < fn → qj_1 (w.1 84) t g = true) (H3 : ∀ g, g < fn → qj_3 (w.1 84) t g = true) : ∀ (k n f : Nat), f + k = fn → k < n → zJ_isEachAmong_L3 n (nI t) (nI 0) (nI f) h = some (qs_b (qs_all (qj_5 (w.1 84) (w.1 86) t) f k))
  | 0, n + 1, f, hf, _ => by
    obtain ⟨a0, a1, a4, a6, lpn, lfn, ltn, lbn⟩ := HA.1
    have s4 := (qi_stg0 HS).1.2.2.1
    simp (disch := omega) only [↓reduceIte, ↓qa_b, qa_b, qa_lit, qa_neg1, qa_qN, nI_add, pk_mul, qa_ix, qa_cl, qa_ltT, qa_ltF, qa_eqT, qa_eqF, qa_nN, qa_Nn, qa_ltN, qa_Nlt, qa_NN, qa_ltNN, qa_sub, qa_dec, qa_dec0, qa_sub0, qa_incN, qa_31, qa_shr, qa_shl, qa_and1, va_up_self, qa_une, pk_us, pk_un, qa_up2, qa_upd2, Option.bind_some, if_true, if_false, and_true, true_and, and_self, qa_f1, qa_f2, zJ_isEachAmong_L3, s4, qs_all]
    rfl
  | k + 1, n + 1, f, hf, hn => by
    obtain ⟨a0, a1, a4, a6, lpn, lfn, ltn, lbn⟩ := HA.1
    have s4 := (qi_stg0 HS).1.2.2.1
    have ih := qh_j5 HA HS HL ht H1 H3 k n (f + 1) (by omega) (by omega)
    obtain ⟨x1, x2, x3⟩ := qi_x HA ht (show f < fn by omega)
    obtain ⟨k1, k2⟩ := qi_kd HA (show f < fn by omega)
    have s9 := ((qi_stg0 HS).2.2.2.2.1 t f ht (by omega)).2
    have sk := ((qi_stg0 HS).2.2.1 f (by omega)).1
    rw [x1] at s9
    rw [k1] at sk
    have eon := qh_isOn HA HS ht (show f < fn by omega)
    have eow := qh_owner x3
    obtain ⟨xn, xf, xp, o1, o2, o3, o4, o5, o6, o7, o8, o9⟩ := HL t ht f (by omega)
    have h3 := H3 f (by omega)
    unfold qj_3 at h3
    unfold qs_all qj_5
    cases ho : qs_on (w.1 84) t f
    · rw [ho] at eon
      simp only [Bool.not_false, Bool.true_or, Bool.true_and]
      simp (disch := omega) only [↓reduceIte, zJ_isEachAmong_L3, s4, qa_ltT, eon, Option.bind_some, qs_b0, qa_lit, nI_add]
      exact ih
    · rw [ho] at eon o8 h3
      obtain ⟨j, hj, e, e0, l1, l2, l3, l4, l5⟩ := qj_hold HA ht (show f < fn by omega) ho (H1 f (by omega))
      simp only [Bool.not_true, Bool.false_or] at h3 ⊢
      rw [l1] at h3 ⊢
      rw [l2]
      have hb : xf.testBit j = qs_law (w.1 84) (w.1 86) 0 t f (qs_ow (w.1 84) f j) (qs_rt (w.1 84) f j) := by
        rw [o8 j hj, Bool.true_and]
        unfold qs_ft qs_nr
        rw [decide_eq_true l3, h3, Bool.true_and, Bool.true_and]
      have ea := qj_and o5 hj
      rw [hb] at ea
      have ol := qj_ohl _ x3
      have eS := qa_1shl (i := qs_oh (qs_x (w.1 84) t f)) (by omega)
      have step : zJ_isEachAmong_L3 (n + 1) (nI t) (nI 0) (nI f) h = if qs_law (w.1 84) (w.1 86) 0 t f (qs_ow (w.1 84) f j) (qs_rt (w.1 84) f j) = false then some (nI 0) else zJ_isEachAmong_L3 n (nI t) (nI 0) (nI (f + 1)) h := by
        by_cases hc : qs_kd (w.1 84) f = 2
        · rw [if_pos hc] at l4
          rw [hc] at sk
          simp (disch := omega) only [↓reduceIte, ↓qa_b, zJ_isEachAmong_L3, zJ_isEachAmong_J59, zJ_isEachAmong_J82, zL_fitting, s4, qa_ltT, eon, Option.bind_some, qs_b0, Bool.true_eq_false, qa_lit, nI_add, pk_mul, qa_ix, qa_cl, s9, sk, qa_eqT, eow, qa_31, eS, l4, o2, ea]
        · rw [if_neg hc] at l4
          rw [l4] at s9
          simp (disch := omega) only [↓reduceIte, ↓qa_b, zJ_isEachAmong_L3, zJ_isEachAmong_J59, zJ_isEachAmong_J82, zL_fitting, s4, qa_ltT, eon, Option.bind_some, qs_b0, Bool.true_eq_false, qa_lit, nI_add, pk_mul, qa_ix, qa_cl, s9, sk, qa_eqT, qa_eqF, o2, ea]
      rw [step]
      cases hr : qs_law (w.1 84) (w.1 86) 0 t f (qs_ow (w.1 84) f j) (qs_rt (w.1 84) f j)
      · simp only [if_true, Bool.false_and]
        rfl
      · simp only [Bool.true_eq_false, if_false, Bool.true_and]
        exact ih
theorem qj_pand {x k : Nat} (hx : x < 512) (hk : k < 9) : (nI x &&& nI (2 ^ k) = nI 0) = (x.testBit k = false) := by
  have p1 : 2 ^ k ≤ 2 ^ 8 := Nat.pow_le_pow_right (by omega) (by omega)
  have l : x &&& 2 ^ k < 512 := Nat.lt_of_le_of_lt Nat.and_le_left hx
  rw [fa_and, qa_eqE (by omega) (by omega)]
  exact propext (fb_bit_nat x k)
theorem qj_lo4 : ∀ pn, pn < 4 → ∀ x, x < 64 → 4 ^ pn ≤ x ∨ x = 0 ∨ qs_lo x / 2 < pn := by decide +kernel
theorem qh_j7 (HA : qi_a L P pn fn tn bn (w.1 84)) (HS : qi_stg 0 P pn fn tn bn h (w.1 84)) (HL : qk_L (w.1 84) (w.1 86) pn fn bn h) {t : Nat} (ht : t < bn) (H1 : ∀ g, g < fn → qj_1 (w.1 84) t g = true) : ∀ (k n f : Nat), f + k = fn → k < n → zJ_isPassed_L2 n (nI t) (nI f) h = some (qs_b (qs_all (qj_7 (w.1 84) (w.1 86) t) f k))
  | 0, n + 1, f, hf, _ => by
    obtain ⟨a0, a1, a4, a6, lpn, lfn, ltn, lbn⟩ := HA.1
    have s4 := (qi_stg0 HS).1.2.2.1
    simp (disch := omega) only [↓reduceIte, ↓qa_b, qa_b, qa_lit, qa_neg1, qa_qN, nI_add, pk_mul, qa_ix, qa_cl, qa_ltT, qa_ltF, qa_eqT, qa_eqF, qa_nN, qa_Nn, qa_ltN, qa_Nlt, qa_NN, qa_ltNN, qa_sub, qa_dec, qa_dec0, qa_sub0, qa_incN, qa_31, qa_shr, qa_shl, qa_and1, va_up_self, qa_une, pk_us, pk_un, qa_up2, qa_upd2, Option.bind_some, if_true, if_false, and_true, true_and, and_self, qa_f1, qa_f2, zJ_isPassed_L2, s4, qs_all]
    rfl
  | k + 1, n + 1, f, hf, hn => by
    obtain ⟨a0, a1, a4, a6, lpn, lfn, ltn, lbn⟩ := HA.1
    have s4 := (qi_stg0 HS).1.2.2.1
    have ih := qh_j7 HA HS HL ht H1 k n (f + 1) (by omega) (by omega)
    have esw := qh_isSwapped HA HS ht (show f < fn by omega)
    unfold qs_all qj_7
    cases hsw : qs_sw (w.1 84) t f
    · rw [hsw] at esw
      simp only [Bool.not_false, Bool.true_or, Bool.true_and]
      simp (disch := omega) only [↓reduceIte, zJ_isPassed_L2, s4, qa_ltT, esw, Option.bind_some, qs_b0, qa_lit, nI_add]
      exact ih
    · rw [hsw] at esw
      have hsw' := hsw
      unfold qs_sw at hsw'
      simp only [Bool.and_eq_true, decide_eq_true_eq] at hsw'
      obtain ⟨t0, on1, on2, hne⟩ := hsw'
      obtain ⟨u, rfl⟩ : ∃ u, t = u + 1 := ⟨t - 1, by omega⟩
      simp only [Nat.add_sub_cancel] at on2 hne
      obtain ⟨x1, x2, x3⟩ := qi_x HA ht (show f < fn by omega)
      obtain ⟨y1, y2, y3⟩ := qi_x HA (t := u) (by omega) (show f < fn by omega)
      have s9 := ((qi_stg0 HS).2.2.2.2.1 (u + 1) f ht (by omega)).2
      have s9' := ((qi_stg0 HS).2.2.2.2.1 u f (by omega) (by omega)).2
      rw [x1] at s9
      rw [y1] at s9'
      have ei : (u + 1) * 6 + f - 6 = u * 6 + f := by omega
      obtain ⟨xn, xf, xp, o1, o2, o3, o4, o5, o6, o7, o8, o9⟩ := HL (u + 1) ht f (by omega)
      obtain ⟨j, hj, e, e0, l1, l2, l3, l4, l5⟩ := qj_hold HA ht (show f < fn by omega) on1 (H1 f (by omega))
      have ew1 := qh_owner x3
      have ew2 := qh_owner y3
      have es : qs_st (w.1 84) (u + 1) f = true := by
        unfold qs_st
        rw [on1, Nat.add_sub_cancel, on2]
        simp
      simp only [Bool.not_true, Bool.false_or, Nat.add_sub_cancel]
      by_cases h0 : qs_x (w.1 84) u f = 0
      · rw [decide_eq_false (fun q => q h0), Bool.false_and, Bool.false_and]
        have z0 : nI xp &&& nI 0 = nI 0 := by rw [fa_and, Nat.and_zero]
        simp (disch := omega) only [↓reduceIte, ↓qa_b, zJ_isPassed_L2, zH_swapBit, zL_passing, s4, qa_ltT, esw, Option.bind_some, qs_b0, Bool.true_eq_false, qa_lit, nI_add, pk_mul, qa_sub, ei, qa_ix, qa_cl, s9, s9', h0, qa_eqT, o3, z0]
        rfl
      · rw [decide_eq_true h0, Bool.true_and]
        have ox := qj_oh _ x3 (by omega)
        have oy := qj_oh _ y3 (by omega)
        rw [ox] at ew1
        rw [oy] at ew2
        have px : qs_lo (qs_x (w.1 84) (u + 1) f) / 2 < pn := by
          rcases qj_lo4 pn (by omega) _ x3 with q | q | q
          · omega
          · omega
          · exact q
        have py : qs_lo (qs_x (w.1 84) u f) / 2 < pn := by
          rcases qj_lo4 pn (by omega) _ y3 with q | q | q
          · omega
          · omega
          · exact q
        generalize hpx : qs_lo (qs_x (w.1 84) (u + 1) f) / 2 = p at *
        generalize hpy : qs_lo (qs_x (w.1 84) u f) / 2 = q at *
        have hb := o9 q (by omega) p (by omega)
        rw [es, Bool.true_and] at hb
        unfold qs_ps at hb
        rw [decide_eq_true py, decide_eq_true px, Bool.true_and, Bool.true_and] at hb
        have eS := qa_1shl (i := q * 3 + p) (by omega)
        have ea := qj_pand o6 (show q * 3 + p < 9 by omega)
        rw [hb] at ea
        have step : zJ_isPassed_L2 (n + 1) (nI (u + 1)) (nI f) h = if qs_law (w.1 84) (w.1 86) 1 (u + 1) f q p = false then some (nI 0) else zJ_isPassed_L2 n (nI (u + 1)) (nI (f + 1)) h := by
          simp (disch := omega) only [↓reduceIte, ↓qa_b, zJ_isPassed_L2, zH_swapBit, zH_passBit, zL_passing, s4, qa_ltT, esw, Option.bind_some, qs_b0, Bool.true_eq_false, qa_lit, nI_add, pk_mul, qa_sub, ei, qa_ix, qa_cl, s9, s9', qa_eqF, o3, ew1, ew2, qa_31, eS, ea]
        rw [step]
        cases hr : qs_law (w.1 84) (w.1 86) 1 (u + 1) f q p
        · simp only [if_true, Bool.false_and]
          rfl
        · simp only [Bool.true_eq_false, if_false, Bool.true_and]
          exact ih
end
