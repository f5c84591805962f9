/-! THE HEART: sets and holds -/
/-- the hands of a hold by a set: none if it isn't one -/
def qs_ho (kd st k : Nat) : Nat := if kd = 2 then (if k < 3 ∧ st.testBit k = true then 3 * 4 ^ k else 0) else (if st.testBit (k / 2) = true then 2 ^ k else 0)
/-- the mask of holds by a set -/
def qs_mk (kd st : Nat) : Nat := if kd = 2 then st else (if st.testBit 0 then 3 else 0) ||| (if st.testBit 1 then 12 else 0) ||| (if st.testBit 2 then 48 else 0)
theorem qs_ho_lt : ∀ kd, kd < 3 → ∀ st, st < 8 → ∀ k, k < 6 → qs_ho kd st k < 64 := by decide +kernel
theorem qs_mk_lt : ∀ kd, kd < 3 → ∀ st, st < 8 → qs_mk kd st < 64 := by decide +kernel
theorem qs_mk_tb : ∀ kd, kd < 3 → ∀ st, st < 8 → ∀ k, k < 6 → (qs_mk kd st).testBit k = decide (qs_ho kd st k ≠ 0) := by decide +kernel
theorem qs_ho_lo : ∀ kd, kd < 3 → ∀ st, st < 8 → ∀ k, k < 6 → qs_ho kd st k ≠ 0 → qs_lo (qs_ho kd st k) / 2 = (if kd = 2 then k else k / 2) ∧ (if qs_bn (qs_ho kd st k) = 1 then qs_lo (qs_ho kd st k) % 2 else 0) = (if kd = 2 then 0 else k % 2) := by decide +kernel
theorem qs_ho_st : ∀ kd, kd < 3 → ∀ st, st < 8 → ∀ k, k < 6 → qs_ho kd st k ≠ 0 → st.testBit (if kd = 2 then k else k / 2) = true ∧ (if kd = 2 then k else k / 2) < 3 := by decide +kernel
theorem qs_ho_tb' : ∀ kd, kd < 3 → ∀ st, st < 8 → ∀ k, k < 6 → ∀ j, j < 6 → qs_ho kd st k = 0 ∨ (qs_ho kd st k).testBit j = false ∨ j / 2 = (if kd = 2 then k else k / 2) := by decide +kernel
theorem qs_ho_tb (kd : Nat) (hk : kd < 3) (st : Nat) (hs : st < 8) (k : Nat) (h6 : k < 6) (j : Nat) (hj : j < 6) (h0 : qs_ho kd st k ≠ 0) (hb : (qs_ho kd st k).testBit j = true) : j / 2 = (if kd = 2 then k else k / 2) := by
  rcases qs_ho_tb' kd hk st hs k h6 j hj with e | e | e
  · exact absurd e h0
  · rw [hb] at e; cases e
  · exact e
theorem qs_ho_t0 : ∀ kd, kd < 3 → ∀ st, st < 8 → ∀ k, k < 6 → qs_ho kd st k ≠ 0 → ∃ j, j < 6 ∧ (qs_ho kd st k).testBit j = true := by decide +kernel
theorem qs_ir_iff (r : Nat → Bool) (x : Nat) : ∀ k i, qs_ir r x i k = true ↔ ∀ j, i ≤ j → j < i + k → x.testBit j = true → r (j / 2) = true
  | 0, i => ⟨fun _ j h1 h2 => by omega, fun _ => rfl⟩
  | k + 1, i => by
    unfold qs_ir
    have ih := qs_ir_iff r x k (i + 1)
    cases hb : x.testBit i
    · simp only [Bool.false_and, Bool.false_eq_true, if_false]
      rw [ih]
      constructor
      · intro H j h1 h2 h3
        by_cases e : j = i
        · subst e; rw [hb] at h3; cases h3
        · exact H j (by omega) (by omega) h3
      · intro H j h1 h2 h3
        exact H j (by omega) (by omega) h3
    · cases hr : r (i / 2)
      · simp only [Bool.true_and, Bool.not_false, if_true, Bool.false_eq_true, false_iff]
        intro H
        have := H i (by omega) (by omega) hb
        rw [hr] at this
        cases this
      · simp only [Bool.true_and, Bool.not_true, Bool.false_eq_true, if_false]
        rw [ih]
        constructor
        · intro H j h1 h2 h3
          by_cases e : j = i
          · subst e; exact hr
          · exact H j (by omega) (by omega) h3
        · intro H j h1 h2 h3
          exact H j (by omega) (by omega) h3
/-- a set's bits are those of puppeteers that are there -/
theorem qs_set_tb : ∀ pn, pn < 4 → ∀ st, st < 2 ^ pn → st < 8 ∧ ∀ p, p < 3 → st.testBit p = true → p < pn := by decide +kernel
theorem qs_ir_ho {r : Nat → Bool} {pn kd st k : Nat} (hp : pn ≤ 3) (hk : kd < 3) (hs : st < 2 ^ pn) (h6 : k < 6) (h0 : qs_ho kd st k ≠ 0) : qs_ir r (qs_ho kd st k) 0 (2 * pn) = r (if kd = 2 then k else k / 2) := by
  have h8 := (qs_set_tb pn (by omega) st hs)
  have hst := qs_ho_st kd hk st h8.1 k h6 h0
  have how := h8.2 _ hst.2 hst.1
  cases hr : r (if kd = 2 then k else k / 2)
  · have : ¬ qs_ir r (qs_ho kd st k) 0 (2 * pn) = true := fun H => by
      obtain ⟨j, hj, hb⟩ := qs_ho_t0 kd hk st h8.1 k h6 h0
      have ej := qs_ho_tb kd hk st h8.1 k h6 j hj h0 hb
      have := (qs_ir_iff r _ (2 * pn) 0).mp H j (by omega) (by rw [← ej] at how; omega) hb
      rw [ej, hr] at this
      cases this
    simpa using this
  · rw [qs_ir_iff]
    intro j _ h2 hb
    rw [qs_ho_tb kd hk st h8.1 k h6 j (by omega) h0 hb]
    exact hr
theorem qh_holdsOf {kd st : Nat} (hk : kd < 3) (hs : st < 8) : zH_holdsOf (nI kd) (nI st) = some (nI (qs_mk kd st)) := by
  have en : am_N = 999996 + 4 := by decide
  unfold zH_holdsOf qs_mk
  by_cases hc : kd = 2
  · subst hc
    simp (disch := omega) only [↓reduceIte, qa_lit, qa_eqT]
  · rw [if_neg hc, en]
    have s0 : nI 3 <<< nI 0 = nI 3 := by decide
    have s2 : nI 3 <<< nI 2 = nI 12 := by decide
    have s4 : nI 3 <<< nI 4 = nI 48 := by decide
    have key : ∀ n, zH_holdsOf_L11 (n + 4) (nI st) (nI 0) (nI 0) = some (nI ((if st.testBit 0 then 3 else 0) ||| (if st.testBit 1 then 12 else 0) ||| (if st.testBit 2 then 48 else 0))) := fun n => by
      cases h0 : st.testBit 0 <;> cases h1 : st.testBit 1 <;> cases h2 : st.testBit 2 <;> simp (disch := omega) only [↓reduceIte, ↓qa_b, zH_holdsOf_L11, qa_ltT, qa_ltF, qa_lit, qa_31, qa_shr, qa_and1, qa_tb, h0, h1, h2, nI_add, pk_mul, s0, s2, s4, fa_or, Bool.false_eq_true, Bool.true_eq_false, Nat.reduceAdd, Nat.reduceMul, Nat.reduceOr, Nat.zero_or, Nat.or_zero]
    simp (disch := omega) only [↓reduceIte, qa_lit, qa_eqF]
    exact key 999996
section
variable {L P pn fn tn bn : Nat} {h : Nat → Nat → Int32} {w : zHM}
theorem qm_holdOf (HA : qi_a L P pn fn tn bn (w.1 84)) {st f k : Nat} (hf : f < fn) (hs : st < 8) (h6 : k < 6) (e30 : w.1 83 30 = nI st) : zM_holdOf (nI f) (nI k) w = some (nI (qs_ho (qs_kd (w.1 84) f) st k)) := by
  obtain ⟨a0, a1, a4, a6, lpn, lfn, ltn, lbn⟩ := HA.1
  obtain ⟨k1, k2⟩ := qi_kd HA hf
  have ek := qm_kindOf (w := w) (f := f) (by omega)
  rw [k1] at ek
  have d1 : nI k / nI 2 = nI (k / 2) := pk_div (by omega) (by omega) (by omega)
  have p1 : 2 ^ k ≤ 2 ^ 5 := Nat.pow_le_pow_right (by omega) (by omega)
  unfold qs_ho
  by_cases hc : qs_kd (w.1 84) f = 2
  · rw [if_pos hc]
    rw [hc] at ek
    by_cases h3 : k < 3
    · have p2 : 2 ^ (2 * k) ≤ 2 ^ 4 := Nat.pow_le_pow_right (by omega) (by omega)
      have e4 : 4 ^ k = 2 ^ (2 * k) := by rw [Nat.pow_mul]
      cases hb : st.testBit k
      · rw [if_neg (by simp)]
        simp (disch := omega) only [↓reduceIte, zM_holdOf, zM_holdOf_J16, ek, Option.bind_some, qa_lit, qa_eqT, qa_ltF, e30, qa_31, qa_shr, qa_and1, qa_tb, hb]
      · rw [if_pos ⟨h3, rfl⟩, e4]
        simp (disch := omega) only [↓reduceIte, zM_holdOf, zM_holdOf_J16, ek, Option.bind_some, qa_lit, qa_eqT, qa_ltF, e30, qa_31, qa_shr, qa_and1, qa_tb, hb, Bool.true_eq_false, pk_mul, qa_shl]
    · rw [if_neg (by omega)]
      simp (disch := omega) only [↓reduceIte, zM_holdOf, zM_holdOf_J16, ek, Option.bind_some, qa_lit, qa_eqT, qa_ltT]
  · rw [if_neg hc]
    have eS := qa_1shl (i := k) (by omega)
    cases hb : st.testBit (k / 2)
    · simp (disch := omega) only [↓reduceIte, zM_holdOf, zM_holdOf_J16, ek, Option.bind_some, qa_lit, qa_eqF, d1, qa_ltF, e30, qa_31, qa_shr, qa_and1, qa_tb, hb, Bool.false_eq_true]
    · simp (disch := omega) only [↓reduceIte, zM_holdOf, zM_holdOf_J16, ek, Option.bind_some, qa_lit, qa_eqF, d1, qa_ltF, e30, qa_31, qa_shr, qa_and1, qa_tb, hb, Bool.true_eq_false, eS]
/-- whether a hold by a set can be, beside others -/
def qs_ch (a tx : Nat → Int32) (pn st t f k : Nat) : Bool := decide (qs_ho (qs_kd a f) st k ≠ 0) && qs_ft a tx pn t f k
theorem qm_canHold (HA : qi_a L P pn fn tn bn (w.1 84)) (hP : P ≤ 8) (hask : qk_askM w) {t f st k : Nat} (ht : t < bn) (hf : f < fn) (ho : qs_on (w.1 84) t f = true) (hs : st < 2 ^ pn) (h6 : k < 6) : ∃ w', zM_canHold (nI t) (nI f) (nI (qs_ho (qs_kd (w.1 84) f) st k)) w = some (qs_b (qs_ch (w.1 84) (w.1 86) pn st t f k), w') ∧ qf_s w w' := by
  obtain ⟨a0, a1, a4, a6, lpn, lfn, ltn, lbn⟩ := HA.1
  obtain ⟨k1, k2⟩ := qi_kd HA hf
  obtain ⟨p1, p2, p3⟩ := qi_plc HA hP ht hf ho
  have h8 := qs_set_tb pn (by omega) st hs
  have hl := qs_ho_lt (qs_kd (w.1 84) f) (by omega) st h8.1 k h6
  unfold qs_ch
  by_cases h0 : qs_ho (qs_kd (w.1 84) f) st k = 0
  · rw [h0]
    refine ⟨w, ?_, qf_s.rf w⟩
    simp (disch := omega) only [↓reduceIte, ↓qa_b, qa_b, qa_lit, qa_neg1, qa_qN, nI_add, pk_mul, qa_ix, qa_cl, qa_ltT, qa_ltF, qa_eqT, qa_eqF, qa_nN, qa_Nn, qa_ltN, qa_Nlt, qa_NN, qa_ltNN, qa_sub, qa_dec, qa_dec0, qa_sub0, qa_incN, qa_31, qa_shr, qa_shl, qa_and1, va_up_self, qa_une, pk_us, pk_un, qa_up2, qa_upd2, Option.bind_some, if_true, if_false, and_true, true_and, and_self, qa_f1, qa_f2, zM_canHold]
    simp [qs_b]
  · have hst := qs_ho_st _ (by omega) st h8.1 k h6 h0
    have how := h8.2 _ hst.2 hst.1
    have elo := qs_ho_lo _ (show qs_kd (w.1 84) f < 3 by omega) st h8.1 k h6 h0
    have ep := qm_placeOf (w := w) (t := t) (f := f) (by omega) (by omega)
    rw [p1] at ep
    have er := qm_reach HA hP (pl := qs_pl (w.1 84) t f) (x := qs_ho (qs_kd (w.1 84) f) st k) p3 hl
    rw [qs_ir_ho lpn (by omega) hs h6 h0] at er
    have hhn : k < qs_hn (w.1 84) pn f := by
      unfold qs_hn
      split at how <;> rename_i hc
      · rw [if_pos hc]; exact how
      · rw [if_neg hc]; omega
    have eft : qs_ft (w.1 84) (w.1 86) pn t f k = (qs_rc (w.1 84) (if qs_kd (w.1 84) f = 2 then k else k / 2) (qs_pl (w.1 84) t f) && qs_law (w.1 84) (w.1 86) 0 t f (if qs_kd (w.1 84) f = 2 then k else k / 2) (if qs_kd (w.1 84) f = 2 then 0 else k % 2)) := by
      unfold qs_ft qs_nr qs_ow qs_rt
      rw [decide_eq_true hhn, Bool.true_and]
    rw [eft, decide_eq_true h0, Bool.true_and]
    cases hr : qs_rc (w.1 84) (if qs_kd (w.1 84) f = 2 then k else k / 2) (qs_pl (w.1 84) t f)
    · rw [hr] at er
      refine ⟨w, ?_, qf_s.rf w⟩
      simp (disch := omega) only [↓reduceIte, zM_canHold, qa_lit, qa_eqF, ep, er, Option.bind_some, qs_b0]
      rfl
    · rw [hr] at er
      obtain ⟨w', e1, e2⟩ := qm_may HA hP hask ht hf ho hl (by omega)
      rw [elo.1, elo.2] at e1
      refine ⟨w', ?_, e2⟩
      cases hlw : qs_law (w.1 84) (w.1 86) 0 t f (if qs_kd (w.1 84) f = 2 then k else k / 2) (if qs_kd (w.1 84) f = 2 then 0 else k % 2)
      · rw [hlw] at e1
        simp (disch := omega) only [↓reduceIte, zM_canHold, qa_lit, qa_eqF, ep, er, Option.bind_some, qs_b0, Bool.true_eq_false, e1]
        rfl
      · rw [hlw] at e1
        simp (disch := omega) only [↓reduceIte, zM_canHold, qa_lit, qa_eqF, ep, er, Option.bind_some, qs_b0, Bool.true_eq_false, e1]
        rfl
/-- a set: both ask alike -/
theorem qo_isSet (lpn : pn ≤ 3) (a0 : w.1 84 0 = nI pn) (s1 : h 1 1 = nI pn) (v : Int32) : (zH_isSet v h = nI 0 ∧ zM_isSet v w = nI 0) ∨ (zH_isSet v h = nI 1 ∧ zM_isSet v w = nI 1 ∧ ∃ st, st < 2 ^ pn ∧ v = nI st) := by
  have hE : 1 ≤ 2 ^ pn ∧ 2 ^ pn ≤ 8 := by
    rcases (show pn = 0 ∨ pn = 1 ∨ pn = 2 ∨ pn = 3 by omega) with rfl | rfl | rfl | rfl <;> decide
  have eL := qa_1shl (i := pn) (by omega)
  rcases qa_arg v (2 ^ pn) with hv | ⟨x, hx, hx', rfl⟩ | ⟨x, hx, hx', rfl⟩
  · left
    constructor
    · simp (disch := omega) only [↓reduceIte, ↓qa_b, qa_b, qa_lit, qa_neg1, qa_qN, nI_add, pk_mul, qa_ix, qa_cl, qa_ltT, qa_ltF, qa_eqT, qa_eqF, qa_nN, qa_Nn, qa_ltN, qa_Nlt, qa_NN, qa_ltNN, qa_sub, qa_dec, qa_dec0, qa_sub0, qa_incN, qa_31, qa_shr, qa_shl, qa_and1, va_up_self, qa_une, pk_us, pk_un, qa_up2, qa_upd2, Option.bind_some, if_true, if_false, and_true, true_and, and_self, qa_f1, qa_f2, zH_isSet, hv]
    · simp (disch := omega) only [↓reduceIte, ↓qa_b, qa_b, qa_lit, qa_neg1, qa_qN, nI_add, pk_mul, qa_ix, qa_cl, qa_ltT, qa_ltF, qa_eqT, qa_eqF, qa_nN, qa_Nn, qa_ltN, qa_Nlt, qa_NN, qa_ltNN, qa_sub, qa_dec, qa_dec0, qa_sub0, qa_incN, qa_31, qa_shr, qa_shl, qa_and1, va_up_self, qa_une, pk_us, pk_un, qa_up2, qa_upd2, Option.bind_some, if_true, if_false, and_true, true_and, and_self, qa_f1, qa_f2, zM_isSet, zM_isIn, hv]
  · left
    constructor
    · simp (disch := omega) only [↓reduceIte, ↓qa_b, qa_b, qa_lit, qa_neg1, qa_qN, nI_add, pk_mul, qa_ix, qa_cl, qa_ltT, qa_ltF, qa_eqT, qa_eqF, qa_nN, qa_Nn, qa_ltN, qa_Nlt, qa_NN, qa_ltNN, qa_sub, qa_dec, qa_dec0, qa_sub0, qa_incN, qa_31, qa_shr, qa_shl, qa_and1, va_up_self, qa_une, pk_us, pk_un, qa_up2, qa_upd2, Option.bind_some, if_true, if_false, and_true, true_and, and_self, qa_f1, qa_f2, zH_isSet, zH_everybody, s1, eL]
    · simp (disch := omega) only [↓reduceIte, ↓qa_b, qa_b, qa_lit, qa_neg1, qa_qN, nI_add, pk_mul, qa_ix, qa_cl, qa_ltT, qa_ltF, qa_eqT, qa_eqF, qa_nN, qa_Nn, qa_ltN, qa_Nlt, qa_NN, qa_ltNN, qa_sub, qa_dec, qa_dec0, qa_sub0, qa_incN, qa_31, qa_shr, qa_shl, qa_and1, va_up_self, qa_une, pk_us, pk_un, qa_up2, qa_upd2, Option.bind_some, if_true, if_false, and_true, true_and, and_self, qa_f1, qa_f2, zM_isSet, zM_isIn, a0, eL]
  · right
    refine ⟨?_, ?_, x, hx, rfl⟩
    · simp (disch := omega) only [↓reduceIte, ↓qa_b, qa_b, qa_lit, qa_neg1, qa_qN, nI_add, pk_mul, qa_ix, qa_cl, qa_ltT, qa_ltF, qa_eqT, qa_eqF, qa_nN, qa_Nn, qa_ltN, qa_Nlt, qa_NN, qa_ltNN, qa_sub, qa_dec, qa_dec0, qa_sub0, qa_incN, qa_31, qa_shr, qa_shl, qa_and1, va_up_self, qa_une, pk_us, pk_un, qa_up2, qa_upd2, Option.bind_some, if_true, if_false, and_true, true_and, and_self, qa_f1, qa_f2, zH_isSet, zH_everybody, s1, eL]
    · simp (disch := omega) only [↓reduceIte, ↓qa_b, qa_b, qa_lit, qa_neg1, qa_qN, nI_add, pk_mul, qa_ix, qa_cl, qa_ltT, qa_ltF, qa_eqT, qa_eqF, qa_nN, qa_Nn, qa_ltN, qa_Nlt, qa_NN, qa_ltNN, qa_sub, qa_dec, qa_dec0, qa_sub0, qa_incN, qa_31, qa_shr, qa_shl, qa_and1, va_up_self, qa_une, pk_us, pk_un, qa_up2, qa_upd2, Option.bind_some, if_true, if_false, and_true, true_and, and_self, qa_f1, qa_f2, zM_isSet, zM_isIn, a0, eL]
end
