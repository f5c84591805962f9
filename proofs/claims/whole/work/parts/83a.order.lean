/-! THE HEART: the order of hands; about -/
/-- the number at a place of a row -/
def qv (a : Nat → Int32) (j : Nat) : Nat := (a j).toNatClampNeg
theorem qv_of {a : Nat → Int32} {j P : Nat} (hP : P ≤ 2147483648) (h : ∃ x, x < P ∧ a j = nI x) : a j = nI (qv a j) ∧ qv a j < P := by
  obtain ⟨x, hx, e⟩ := h
  unfold qv
  rw [e, qa_cl (by omega)]
  exact ⟨rfl, hx⟩
theorem qv_ofle {a : Nat → Int32} {j P : Nat} (hP : P < 2147483648) (h : ∃ x, x ≤ P ∧ a j = nI x) : a j = nI (qv a j) ∧ qv a j ≤ P := by
  obtain ⟨x, hx, e⟩ := h
  have := qv_of (P := P + 1) (by omega) ⟨x, by omega, e⟩
  exact ⟨this.1, by omega⟩
/-- one puppeteer is ahead of another -/
def qs_ah (hm : Nat → Nat) (p q : Nat) : Bool := decide (hm p < hm q) || (decide (hm p = hm q) && decide (p < q))
def qs_ct (hm : Nat → Nat) (q : Nat) : Nat → Nat
  | 0 => 0
  | i + 1 => qs_ct hm q i + if qs_ah hm i q then 1 else 0
theorem qs_ct_s (hm : Nat → Nat) (q i : Nat) : qs_ct hm q (i + 1) = qs_ct hm q i + if qs_ah hm i q then 1 else 0 := rfl
theorem qs_ct_le (hm : Nat → Nat) (q : Nat) : ∀ i, qs_ct hm q i ≤ i
  | 0 => Nat.le_refl 0
  | i + 1 => by
    have := qs_ct_le hm q i
    unfold qs_ct
    split <;> omega
/-- the place of a hand in the order -/
def qs_or (hm : Nat → Nat) (pn hd : Nat) : Nat := 2 * qs_ct hm (hd / 2) pn + hd % 2
section
variable {pn P : Nat} {hm : Nat → Nat} {h : Nat → Nat → Int32} {w : zHM}
theorem qs_orderH (hp3 : pn ≤ 3) (e1 : h 1 1 = nI pn) (e2 : ∀ p, p < pn → h 2 p = nI (hm p) ∧ hm p < 8) {hd who : Nat} (hd6 : hd < 6) (hw : who < pn) : ∀ (k n i : Nat), i + k = pn → k < n → zG_orderOf_L9 n (nI hd) (nI who) (nI (qs_ct hm who i)) (nI i) h = some (nI (2 * qs_ct hm who pn + hd % 2))
  | 0, n + 1, i, hi, _ => by
    have : i = pn := by omega
    subst this
    simp (disch := omega) only [↓reduceIte, ↓qa_b, qa_b, qa_lit, qa_neg1, qa_qN, nI_add, pk_mul, qa_ix, qa_cl, qa_ltT, qa_ltF, qa_eqT, qa_eqF, qa_nN, qa_Nn, qa_ltN, qa_Nlt, qa_NN, qa_ltNN, qa_sub, qa_dec, qa_dec0, qa_sub0, qa_incN, qa_31, qa_shr, qa_shl, qa_and1, va_up_self, qa_une, pk_us, pk_un, qa_up2, qa_upd2, Option.bind_some, if_true, if_false, and_true, true_and, and_self, qa_f1, qa_f2, zG_orderOf_L9, e1]
  | k + 1, n + 1, i, hi, hn => by
    have ih := qs_orderH hp3 e1 e2 hd6 hw k n (i + 1) (by omega) (by omega)
    obtain ⟨q1, q2⟩ := e2 i (by omega)
    obtain ⟨q3, q4⟩ := e2 who hw
    rw [qs_ct_s] at ih
    unfold qs_ah at ih
    rcases Nat.lt_trichotomy (hm i) (hm who) with hl | hl | hl
    · simp only [hl, decide_true, Bool.true_or, if_true] at ih
      simp (disch := omega) only [↓reduceIte, ↓qa_b, qa_b, qa_lit, qa_neg1, qa_qN, nI_add, pk_mul, qa_ix, qa_cl, qa_ltT, qa_ltF, qa_eqT, qa_eqF, qa_nN, qa_Nn, qa_ltN, qa_Nlt, qa_NN, qa_ltNN, qa_sub, qa_dec, qa_dec0, qa_sub0, qa_incN, qa_31, qa_shr, qa_shl, qa_and1, va_up_self, qa_une, pk_us, pk_un, qa_up2, qa_upd2, Option.bind_some, if_true, if_false, and_true, true_and, and_self, qa_f1, qa_f2, zG_orderOf_L9, e1, q1, q3]
      exact ih
    · by_cases hiw : i < who
      · simp only [hl, hiw, Nat.lt_irrefl, decide_true, decide_false, Bool.false_or, Bool.and_true, if_true] at ih
        simp (disch := omega) only [↓reduceIte, ↓qa_b, qa_b, qa_lit, qa_neg1, qa_qN, nI_add, pk_mul, qa_ix, qa_cl, qa_ltT, qa_ltF, qa_eqT, qa_eqF, qa_nN, qa_Nn, qa_ltN, qa_Nlt, qa_NN, qa_ltNN, qa_sub, qa_dec, qa_dec0, qa_sub0, qa_incN, qa_31, qa_shr, qa_shl, qa_and1, va_up_self, qa_une, pk_us, pk_un, qa_up2, qa_upd2, Option.bind_some, if_true, if_false, and_true, true_and, and_self, qa_f1, qa_f2, zG_orderOf_L9, e1, q1, q3]
        exact ih
      · simp only [hl, hiw, Nat.lt_irrefl, decide_true, decide_false, Bool.false_or, Bool.and_false, Bool.false_eq_true, if_false, Nat.add_zero] at ih
        simp (disch := omega) only [↓reduceIte, ↓qa_b, qa_b, qa_lit, qa_neg1, qa_qN, nI_add, pk_mul, qa_ix, qa_cl, qa_ltT, qa_ltF, qa_eqT, qa_eqF, qa_nN, qa_Nn, qa_ltN, qa_Nlt, qa_NN, qa_ltNN, qa_sub, qa_dec, qa_dec0, qa_sub0, qa_incN, qa_31, qa_shr, qa_shl, qa_and1, va_up_self, qa_une, pk_us, pk_un, qa_up2, qa_upd2, Option.bind_some, if_true, if_false, and_true, true_and, and_self, qa_f1, qa_f2, zG_orderOf_L9, e1, q1, q3]
        exact ih
    · have n1 : ¬ hm i < hm who := by omega
      have n2 : ¬ hm i = hm who := by omega
      simp only [n1, n2, decide_false, Bool.false_or, Bool.false_and, Bool.false_eq_true, if_false, Nat.add_zero] at ih
      simp (disch := omega) only [↓reduceIte, ↓qa_b, qa_b, qa_lit, qa_neg1, qa_qN, nI_add, pk_mul, qa_ix, qa_cl, qa_ltT, qa_ltF, qa_eqT, qa_eqF, qa_nN, qa_Nn, qa_ltN, qa_Nlt, qa_NN, qa_ltNN, qa_sub, qa_dec, qa_dec0, qa_sub0, qa_incN, qa_31, qa_shr, qa_shl, qa_and1, va_up_self, qa_une, pk_us, pk_un, qa_up2, qa_upd2, Option.bind_some, if_true, if_false, and_true, true_and, and_self, qa_f1, qa_f2, zG_orderOf_L9, e1, q1, q3]
      exact ih
theorem qs_order (hp3 : pn ≤ 3) (e1 : h 1 1 = nI pn) (e2 : ∀ p, p < pn → h 2 p = nI (hm p) ∧ hm p < 8) {hd : Nat} (hh : hd < 2 * pn) : zG_orderOf (nI hd) h = some (nI (qs_or hm pn hd)) := by
  have e := qs_orderH hp3 e1 e2 (hd := hd) (who := hd / 2) (by omega) (by omega) pn am_N 0 (by omega) (Nat.lt_of_le_of_lt hp3 (by decide))
  unfold zG_orderOf
  simp (disch := omega) only [↓reduceIte, ↓qa_b, qa_b, qa_lit, qa_neg1, qa_qN, nI_add, pk_mul, qa_ix, qa_cl, qa_ltT, qa_ltF, qa_eqT, qa_eqF, qa_nN, qa_Nn, qa_ltN, qa_Nlt, qa_NN, qa_ltNN, qa_sub, qa_dec, qa_dec0, qa_sub0, qa_incN, qa_31, qa_shr, qa_shl, qa_and1, va_up_self, qa_une, pk_us, pk_un, qa_up2, qa_upd2, Option.bind_some, if_true, if_false, and_true, true_and, and_self, qa_f1, qa_f2]
  exact e
/-- hands of the reference -/
theorem qm_ahead (hp3 : pn ≤ 3) (e2 : ∀ p, p < pn → w.1 84 (10 + 2 * p) = nI (hm p) ∧ hm p < 8) {x y : Nat} (hx : x < 2 * pn) (hy : y < 2 * pn) : zM_isAhead (nI x) (nI y) w = some (if hm (x / 2) < hm (y / 2) ∨ (hm (x / 2) = hm (y / 2) ∧ x < y) then nI 1 else nI 0) := by
  obtain ⟨q1, q2⟩ := e2 (x / 2) (by omega)
  obtain ⟨q3, q4⟩ := e2 (y / 2) (by omega)
  have dx : nI x / nI 2 = nI (x / 2) := pk_div (by omega) (by omega) (by omega)
  have dy : nI y / nI 2 = nI (y / 2) := pk_div (by omega) (by omega) (by omega)
  rcases Nat.lt_trichotomy (hm (x / 2)) (hm (y / 2)) with hl | hl | hl
  · rw [if_pos (Or.inl hl)]
    simp (disch := omega) only [↓reduceIte, ↓qa_b, qa_b, qa_lit, qa_neg1, qa_qN, nI_add, pk_mul, qa_ix, qa_cl, qa_ltT, qa_ltF, qa_eqT, qa_eqF, qa_nN, qa_Nn, qa_ltN, qa_Nlt, qa_NN, qa_ltNN, qa_sub, qa_dec, qa_dec0, qa_sub0, qa_incN, qa_31, qa_shr, qa_shl, qa_and1, va_up_self, qa_une, pk_us, pk_un, qa_up2, qa_upd2, Option.bind_some, if_true, if_false, and_true, true_and, and_self, qa_f1, qa_f2, zM_isAhead, zM_homeOf, dx, dy, q1, q3]
  · by_cases hxy : x < y
    · rw [if_pos (Or.inr ⟨hl, hxy⟩)]
      simp (disch := omega) only [↓reduceIte, ↓qa_b, qa_b, qa_lit, qa_neg1, qa_qN, nI_add, pk_mul, qa_ix, qa_cl, qa_ltT, qa_ltF, qa_eqT, qa_eqF, qa_nN, qa_Nn, qa_ltN, qa_Nlt, qa_NN, qa_ltNN, qa_sub, qa_dec, qa_dec0, qa_sub0, qa_incN, qa_31, qa_shr, qa_shl, qa_and1, va_up_self, qa_une, pk_us, pk_un, qa_up2, qa_upd2, Option.bind_some, if_true, if_false, and_true, true_and, and_self, qa_f1, qa_f2, zM_isAhead, zM_homeOf, dx, dy, q1, q3]
    · rw [if_neg (by omega)]
      simp (disch := omega) only [↓reduceIte, ↓qa_b, qa_b, qa_lit, qa_neg1, qa_qN, nI_add, pk_mul, qa_ix, qa_cl, qa_ltT, qa_ltF, qa_eqT, qa_eqF, qa_nN, qa_Nn, qa_ltN, qa_Nlt, qa_NN, qa_ltNN, qa_sub, qa_dec, qa_dec0, qa_sub0, qa_incN, qa_31, qa_shr, qa_shl, qa_and1, va_up_self, qa_une, pk_us, pk_un, qa_up2, qa_upd2, Option.bind_some, if_true, if_false, and_true, true_and, and_self, qa_f1, qa_f2, zM_isAhead, zM_homeOf, dx, dy, q1, q3]
  · rw [if_neg (by omega)]
    simp (disch := omega) only [↓reduceIte, ↓qa_b, qa_b, qa_lit, qa_neg1, qa_qN, nI_add, pk_mul, qa_ix, qa_cl, qa_ltT, qa_ltF, qa_eqT, qa_eqF, qa_nN, qa_Nn, qa_ltN, qa_Nlt, qa_NN, qa_ltNN, qa_sub, qa_dec, qa_dec0, qa_sub0, qa_incN, qa_31, qa_shr, qa_shl, qa_and1, va_up_self, qa_une, pk_us, pk_un, qa_up2, qa_upd2, Option.bind_some, if_true, if_false, and_true, true_and, and_self, qa_f1, qa_f2, zM_isAhead, zM_homeOf, dx, dy, q1, q3]
theorem qm_orderL (hp3 : pn ≤ 3) (e1 : w.1 84 0 = nI pn) (e2 : ∀ p, p < pn → w.1 84 (10 + 2 * p) = nI (hm p) ∧ hm p < 8) {hd : Nat} (hh : hd < 2 * pn) : ∀ (k n i : Nat), i + k = pn → 2 * k < n → zM_orderOf_L4 n (nI hd) (nI (2 * qs_ct hm (hd / 2) i + if hd / 2 < i then hd % 2 else 0)) (nI (2 * i)) w = some (nI (2 * qs_ct hm (hd / 2) pn + hd % 2))
  | 0, n + 1, i, hi, _ => by
    have : i = pn := by omega
    subst this
    rw [if_pos (by omega)]
    simp (disch := omega) only [↓reduceIte, ↓qa_b, qa_b, qa_lit, qa_neg1, qa_qN, nI_add, pk_mul, qa_ix, qa_cl, qa_ltT, qa_ltF, qa_eqT, qa_eqF, qa_nN, qa_Nn, qa_ltN, qa_Nlt, qa_NN, qa_ltNN, qa_sub, qa_dec, qa_dec0, qa_sub0, qa_incN, qa_31, qa_shr, qa_shl, qa_and1, va_up_self, qa_une, pk_us, pk_un, qa_up2, qa_upd2, Option.bind_some, if_true, if_false, and_true, true_and, and_self, qa_f1, qa_f2, zM_orderOf_L4, zM_hands, e1]
  | k + 1, n + 2, i, hi, hn => by
    have ih := qm_orderL hp3 e1 e2 hh k n (i + 1) (by omega) (by omega)
    have c := qs_ct_le hm (hd / 2) i
    have i1 : (2 * i) / 2 = i := by omega
    have i2 : (2 * i + 1) / 2 = i := by omega
    by_cases hiw : i = hd / 2
    · have ah1 : qs_ah hm i (hd / 2) = false := by unfold qs_ah; rw [← hiw]; simp
      rw [qs_ct_s] at ih
      rw [ah1] at ih
      simp only [Bool.false_eq_true, if_false, Nat.add_zero] at ih
      rw [if_pos (show hd / 2 < i + 1 by omega)] at ih
      rw [if_neg (by omega)]
      rcases (show hd = 2 * i ∨ hd = 2 * i + 1 by omega) with e | e
      · have f2 := qm_ahead hp3 e2 (x := 2 * i + 1) (y := hd) (by omega) hh
        rw [i2, ← hiw, if_neg (by omega)] at f2
        rw [show hd % 2 = 0 by omega, Nat.add_zero] at ih
        simp (disch := omega) only [↓reduceIte, ↓qa_b, qa_b, qa_lit, qa_neg1, qa_qN, nI_add, pk_mul, qa_ix, qa_cl, qa_ltT, qa_ltF, qa_eqT, qa_eqF, qa_nN, qa_Nn, qa_ltN, qa_Nlt, qa_NN, qa_ltNN, qa_sub, qa_dec, qa_dec0, qa_sub0, qa_incN, qa_31, qa_shr, qa_shl, qa_and1, va_up_self, qa_une, pk_us, pk_un, qa_up2, qa_upd2, Option.bind_some, if_true, if_false, and_true, true_and, and_self, qa_f1, qa_f2, zM_orderOf_L4, zM_hands, e1, f2, Nat.add_zero]
        rw [show 2 * (i + 1) = 2 * i + 1 + 1 by omega] at ih
        rw [show hd % 2 = 0 by omega, Nat.add_zero]
        exact ih
      · have f1 := qm_ahead hp3 e2 (x := 2 * i) (y := hd) (by omega) hh
        rw [i1, ← hiw, if_pos (Or.inr ⟨rfl, by omega⟩)] at f1
        rw [show hd % 2 = 1 by omega] at ih ⊢
        simp (disch := omega) only [↓reduceIte, ↓qa_b, qa_b, qa_lit, qa_neg1, qa_qN, nI_add, pk_mul, qa_ix, qa_cl, qa_ltT, qa_ltF, qa_eqT, qa_eqF, qa_nN, qa_Nn, qa_ltN, qa_Nlt, qa_NN, qa_ltNN, qa_sub, qa_dec, qa_dec0, qa_sub0, qa_incN, qa_31, qa_shr, qa_shl, qa_and1, va_up_self, qa_une, pk_us, pk_un, qa_up2, qa_upd2, Option.bind_some, if_true, if_false, and_true, true_and, and_self, qa_f1, qa_f2, zM_orderOf_L4, zM_hands, e1, f1, Nat.add_zero]
        rw [show 2 * (i + 1) = 2 * i + 1 + 1 by omega] at ih
        exact ih
    · have f1 := qm_ahead hp3 e2 (x := 2 * i) (y := hd) (by omega) hh
      have f2 := qm_ahead hp3 e2 (x := 2 * i + 1) (y := hd) (by omega) hh
      rw [i1] at f1
      rw [i2] at f2
      rw [qs_ct_s] at ih
      by_cases ha : hm i < hm (hd / 2) ∨ (hm i = hm (hd / 2) ∧ i < hd / 2)
      · have ah1 : qs_ah hm i (hd / 2) = true := by unfold qs_ah; simpa using ha
        rw [if_pos (by omega)] at f1 f2
        rw [ah1, if_pos rfl] at ih
        rw [show 2 * (qs_ct hm (hd / 2) i + 1) + (if hd / 2 < i + 1 then hd % 2 else 0) = 2 * qs_ct hm (hd / 2) i + (if hd / 2 < i then hd % 2 else 0) + 1 + 1 by split <;> split <;> omega] at ih
        generalize 2 * qs_ct hm (hd / 2) i + (if hd / 2 < i then hd % 2 else 0) = z at ih ⊢
        simp (disch := omega) only [↓reduceIte, ↓qa_b, qa_b, qa_lit, qa_neg1, qa_qN, nI_add, pk_mul, qa_ix, qa_cl, qa_ltT, qa_ltF, qa_eqT, qa_eqF, qa_nN, qa_Nn, qa_ltN, qa_Nlt, qa_NN, qa_ltNN, qa_sub, qa_dec, qa_dec0, qa_sub0, qa_incN, qa_31, qa_shr, qa_shl, qa_and1, va_up_self, qa_une, pk_us, pk_un, qa_up2, qa_upd2, Option.bind_some, if_true, if_false, and_true, true_and, and_self, qa_f1, qa_f2, zM_orderOf_L4, zM_hands, e1, f1, f2]
        rw [show 2 * (i + 1) = 2 * i + 1 + 1 by omega] at ih
        exact ih
      · have ah1 : qs_ah hm i (hd / 2) = false := by
          unfold qs_ah
          rw [Bool.or_eq_false_iff, Bool.and_eq_false_iff, decide_eq_false_iff_not, decide_eq_false_iff_not, decide_eq_false_iff_not]
          omega
        rw [if_neg (by omega)] at f1 f2
        rw [ah1] at ih
        simp only [Bool.false_eq_true, if_false, Nat.add_zero] at ih
        rw [show 2 * qs_ct hm (hd / 2) i + (if hd / 2 < i + 1 then hd % 2 else 0) = 2 * qs_ct hm (hd / 2) i + (if hd / 2 < i then hd % 2 else 0) by split <;> split <;> omega] at ih
        generalize 2 * qs_ct hm (hd / 2) i + (if hd / 2 < i then hd % 2 else 0) = z at ih ⊢
        simp (disch := omega) only [↓reduceIte, ↓qa_b, qa_b, qa_lit, qa_neg1, qa_qN, nI_add, pk_mul, qa_ix, qa_cl, qa_ltT, qa_ltF, qa_eqT, qa_eqF, qa_nN, qa_Nn, qa_ltN, qa_Nlt, qa_NN, qa_ltNN, qa_sub, qa_dec, qa_dec0, qa_sub0, qa_incN, qa_31, qa_shr, qa_shl, qa_and1, va_up_self, qa_une, pk_us, pk_un, qa_up2, qa_upd2, Option.bind_some, if_true, if_false, and_true, true_and, and_self, qa_f1, qa_f2, zM_orderOf_L4, zM_hands, e1, f1, f2, Nat.add_zero]
        rw [show 2 * (i + 1) = 2 * i + 1 + 1 by omega] at ih
        exact ih
theorem qm_order (hp3 : pn ≤ 3) (e1 : w.1 84 0 = nI pn) (e2 : ∀ p, p < pn → w.1 84 (10 + 2 * p) = nI (hm p) ∧ hm p < 8) {hd : Nat} (hh : hd < 2 * pn) : zM_orderOf (nI hd) w = some (nI (qs_or hm pn hd)) := by
  have e := qm_orderL hp3 e1 e2 hh pn am_N 0 (by omega) (Nat.lt_of_le_of_lt (show 2 * pn ≤ 6 by omega) (by decide))
  rw [if_neg (by omega)] at e
  exact e
end
section
variable {k P pn fn tn bn pn' fn' tn' bn' tl : Nat} {h : Nat → Nat → Int32} {w : zHM}
/-- the homes, in both heaps -/
theorem qi_homes (H : qi_core k P pn fn tn bn pn' fn' tn' bn' tl h w) : ∃ hm : Nat → Nat, (∀ p, p < pn → h 2 p = nI (hm p) ∧ hm p < 8) ∧ ∀ p, p < pn → w.1 84 (10 + 2 * p) = nI (hm p) ∧ hm p < 8 := by
  obtain ⟨⟨hP3, hP8, hP, htn⟩, ⟨⟨a0, a1, a4, a6, lpn, lfn, ltn, lbn⟩, A2, A3, A5, Ap, Af, At⟩, -, HS1, -⟩ := H
  obtain ⟨-, Sp, -⟩ := qi_stg0 HS1
  refine ⟨fun p => qv (w.1 84) (10 + 2 * p), fun p hp => ?_, fun p hp => ?_⟩
  · have q := qv_of (by omega) (Ap p hp).1
    rw [(Sp p hp).1]
    exact ⟨q.1, Nat.lt_of_lt_of_le q.2 hP8⟩
  · have q := qv_of (by omega) (Ap p hp).1
    exact ⟨q.1, Nat.lt_of_lt_of_le q.2 hP8⟩
theorem qo_about (H : qi_core k P pn fn tn bn pn' fn' tn' bn' tl h w) (v1 : Int32) : ∃ r, zH_about v1 h = some r ∧ zM_about v1 w = some r := by
  obtain ⟨hm, hm1, hm2⟩ := qi_homes H
  obtain ⟨⟨hP3, hP8, hP, htn⟩, ⟨⟨a0, a1, a4, a6, lpn, lfn, ltn, lbn⟩, A2, A3, A5, Ap, Af, At⟩, -, HS1, -, ⟨g1, g2, g3, g4⟩, -⟩ := H
  obtain ⟨⟨s0, s1, s4, s9, s10, s11, s12, s13⟩, Sp, Sf, Sg, St, Su, Sv⟩ := qi_stg0 HS1
  have n2 : (-2 : Int32) = -(nI 2) := rfl
  rcases qa_or v1 with hv | ⟨x, hx, rfl⟩
  · refine ⟨-(nI 2), ?_, ?_⟩
    · simp (disch := omega) only [↓reduceIte, ↓qa_b, qa_b, qa_lit, qa_neg1, qa_qN, nI_add, pk_mul, qa_ix, qa_cl, qa_ltT, qa_ltF, qa_eqT, qa_eqF, qa_nN, qa_Nn, qa_ltN, qa_Nlt, qa_NN, qa_ltNN, qa_sub, qa_dec, qa_dec0, qa_sub0, qa_incN, qa_31, qa_shr, qa_shl, qa_and1, va_up_self, qa_une, pk_us, pk_un, qa_up2, qa_upd2, Option.bind_some, if_true, if_false, and_true, true_and, and_self, qa_f1, qa_f2, zH_about, zH_about_J33, zH_about_J65, qa_neg_lt hv, qa_neg_ne hv, n2]
    · simp (disch := omega) only [↓reduceIte, ↓qa_b, qa_b, qa_lit, qa_neg1, qa_qN, nI_add, pk_mul, qa_ix, qa_cl, qa_ltT, qa_ltF, qa_eqT, qa_eqF, qa_nN, qa_Nn, qa_ltN, qa_Nlt, qa_NN, qa_ltNN, qa_sub, qa_dec, qa_dec0, qa_sub0, qa_incN, qa_31, qa_shr, qa_shl, qa_and1, va_up_self, qa_une, pk_us, pk_un, qa_up2, qa_upd2, Option.bind_some, if_true, if_false, and_true, true_and, and_self, qa_f1, qa_f2, zM_about, zM_isIn, zM_hands, qa_neg_lt hv, qa_neg_ne hv, n2]
  rcases (show x < 10 ∨ (10 ≤ x ∧ x < 10 + fn) ∨ (10 + fn ≤ x ∧ x < 20) ∨ (20 ≤ x ∧ x < 20 + 2 * pn) ∨ 20 + 2 * pn ≤ x by omega) with hx1 | hx1 | hx1 | hx1 | hx1
  · rcases (show x = 0 ∨ x = 1 ∨ x = 2 ∨ x = 3 ∨ x = 4 ∨ x = 5 ∨ x = 6 ∨ x = 7 ∨ x = 8 ∨ x = 9 by omega) with rfl | rfl | rfl | rfl | rfl | rfl | rfl | rfl | rfl | rfl
    · exact ⟨nI P, by simp (disch := omega) only [↓reduceIte, ↓qa_b, qa_b, qa_lit, qa_neg1, qa_qN, nI_add, pk_mul, qa_ix, qa_cl, qa_ltT, qa_ltF, qa_eqT, qa_eqF, qa_nN, qa_Nn, qa_ltN, qa_Nlt, qa_NN, qa_ltNN, qa_sub, qa_dec, qa_dec0, qa_sub0, qa_incN, qa_31, qa_shr, qa_shl, qa_and1, va_up_self, qa_une, pk_us, pk_un, qa_up2, qa_upd2, Option.bind_some, if_true, if_false, and_true, true_and, and_self, qa_f1, qa_f2, zH_about, zH_about_J33, zH_about_J65, s0], by simp (disch := omega) only [↓reduceIte, ↓qa_b, qa_b, qa_lit, qa_neg1, qa_qN, nI_add, pk_mul, qa_ix, qa_cl, qa_ltT, qa_ltF, qa_eqT, qa_eqF, qa_nN, qa_Nn, qa_ltN, qa_Nlt, qa_NN, qa_ltNN, qa_sub, qa_dec, qa_dec0, qa_sub0, qa_incN, qa_31, qa_shr, qa_shl, qa_and1, va_up_self, qa_une, pk_us, pk_un, qa_up2, qa_upd2, Option.bind_some, if_true, if_false, and_true, true_and, and_self, qa_f1, qa_f2, zM_about, zM_isIn, zM_hands, a0, a1, hP]⟩
    · exact ⟨nI pn, by simp (disch := omega) only [↓reduceIte, ↓qa_b, qa_b, qa_lit, qa_neg1, qa_qN, nI_add, pk_mul, qa_ix, qa_cl, qa_ltT, qa_ltF, qa_eqT, qa_eqF, qa_nN, qa_Nn, qa_ltN, qa_Nlt, qa_NN, qa_ltNN, qa_sub, qa_dec, qa_dec0, qa_sub0, qa_incN, qa_31, qa_shr, qa_shl, qa_and1, va_up_self, qa_une, pk_us, pk_un, qa_up2, qa_upd2, Option.bind_some, if_true, if_false, and_true, true_and, and_self, qa_f1, qa_f2, zH_about, zH_about_J33, zH_about_J65, s1], by simp (disch := omega) only [↓reduceIte, ↓qa_b, qa_b, qa_lit, qa_neg1, qa_qN, nI_add, pk_mul, qa_ix, qa_cl, qa_ltT, qa_ltF, qa_eqT, qa_eqF, qa_nN, qa_Nn, qa_ltN, qa_Nlt, qa_NN, qa_ltNN, qa_sub, qa_dec, qa_dec0, qa_sub0, qa_incN, qa_31, qa_shr, qa_shl, qa_and1, va_up_self, qa_une, pk_us, pk_un, qa_up2, qa_upd2, Option.bind_some, if_true, if_false, and_true, true_and, and_self, qa_f1, qa_f2, zM_about, zM_isIn, zM_hands, a0, a1]⟩
    · exact ⟨nI fn, by simp (disch := omega) only [↓reduceIte, ↓qa_b, qa_b, qa_lit, qa_neg1, qa_qN, nI_add, pk_mul, qa_ix, qa_cl, qa_ltT, qa_ltF, qa_eqT, qa_eqF, qa_nN, qa_Nn, qa_ltN, qa_Nlt, qa_NN, qa_ltNN, qa_sub, qa_dec, qa_dec0, qa_sub0, qa_incN, qa_31, qa_shr, qa_shl, qa_and1, va_up_self, qa_une, pk_us, pk_un, qa_up2, qa_upd2, Option.bind_some, if_true, if_false, and_true, true_and, and_self, qa_f1, qa_f2, zH_about, zH_about_J33, zH_about_J65, s4], by simp (disch := omega) only [↓reduceIte, ↓qa_b, qa_b, qa_lit, qa_neg1, qa_qN, nI_add, pk_mul, qa_ix, qa_cl, qa_ltT, qa_ltF, qa_eqT, qa_eqF, qa_nN, qa_Nn, qa_ltN, qa_Nlt, qa_NN, qa_ltNN, qa_sub, qa_dec, qa_dec0, qa_sub0, qa_incN, qa_31, qa_shr, qa_shl, qa_and1, va_up_self, qa_une, pk_us, pk_un, qa_up2, qa_upd2, Option.bind_some, if_true, if_false, and_true, true_and, and_self, qa_f1, qa_f2, zM_about, zM_isIn, zM_hands, a0, a1]⟩
    · exact ⟨w.1 84 2, by simp (disch := omega) only [↓reduceIte, ↓qa_b, qa_b, qa_lit, qa_neg1, qa_qN, nI_add, pk_mul, qa_ix, qa_cl, qa_ltT, qa_ltF, qa_eqT, qa_eqF, qa_nN, qa_Nn, qa_ltN, qa_Nlt, qa_NN, qa_ltNN, qa_sub, qa_dec, qa_dec0, qa_sub0, qa_incN, qa_31, qa_shr, qa_shl, qa_and1, va_up_self, qa_une, pk_us, pk_un, qa_up2, qa_upd2, Option.bind_some, if_true, if_false, and_true, true_and, and_self, qa_f1, qa_f2, zH_about, zH_about_J33, zH_about_J65, s9], by simp (disch := omega) only [↓reduceIte, ↓qa_b, qa_b, qa_lit, qa_neg1, qa_qN, nI_add, pk_mul, qa_ix, qa_cl, qa_ltT, qa_ltF, qa_eqT, qa_eqF, qa_nN, qa_Nn, qa_ltN, qa_Nlt, qa_NN, qa_ltNN, qa_sub, qa_dec, qa_dec0, qa_sub0, qa_incN, qa_31, qa_shr, qa_shl, qa_and1, va_up_self, qa_une, pk_us, pk_un, qa_up2, qa_upd2, Option.bind_some, if_true, if_false, and_true, true_and, and_self, qa_f1, qa_f2, zM_about, zM_isIn, zM_hands, a0, a1]⟩
    · exact ⟨w.1 84 3, by simp (disch := omega) only [↓reduceIte, ↓qa_b, qa_b, qa_lit, qa_neg1, qa_qN, nI_add, pk_mul, qa_ix, qa_cl, qa_ltT, qa_ltF, qa_eqT, qa_eqF, qa_nN, qa_Nn, qa_ltN, qa_Nlt, qa_NN, qa_ltNN, qa_sub, qa_dec, qa_dec0, qa_sub0, qa_incN, qa_31, qa_shr, qa_shl, qa_and1, va_up_self, qa_une, pk_us, pk_un, qa_up2, qa_upd2, Option.bind_some, if_true, if_false, and_true, true_and, and_self, qa_f1, qa_f2, zH_about, zH_about_J33, zH_about_J65, s10], by simp (disch := omega) only [↓reduceIte, ↓qa_b, qa_b, qa_lit, qa_neg1, qa_qN, nI_add, pk_mul, qa_ix, qa_cl, qa_ltT, qa_ltF, qa_eqT, qa_eqF, qa_nN, qa_Nn, qa_ltN, qa_Nlt, qa_NN, qa_ltNN, qa_sub, qa_dec, qa_dec0, qa_sub0, qa_incN, qa_31, qa_shr, qa_shl, qa_and1, va_up_self, qa_une, pk_us, pk_un, qa_up2, qa_upd2, Option.bind_some, if_true, if_false, and_true, true_and, and_self, qa_f1, qa_f2, zM_about, zM_isIn, zM_hands, a0, a1]⟩
    · exact ⟨nI tn, by simp (disch := omega) only [↓reduceIte, ↓qa_b, qa_b, qa_lit, qa_neg1, qa_qN, nI_add, pk_mul, qa_ix, qa_cl, qa_ltT, qa_ltF, qa_eqT, qa_eqF, qa_nN, qa_Nn, qa_ltN, qa_Nlt, qa_NN, qa_ltNN, qa_sub, qa_dec, qa_dec0, qa_sub0, qa_incN, qa_31, qa_shr, qa_shl, qa_and1, va_up_self, qa_une, pk_us, pk_un, qa_up2, qa_upd2, Option.bind_some, if_true, if_false, and_true, true_and, and_self, qa_f1, qa_f2, zH_about, zH_about_J33, zH_about_J65, s11], by simp (disch := omega) only [↓reduceIte, ↓qa_b, qa_b, qa_lit, qa_neg1, qa_qN, nI_add, pk_mul, qa_ix, qa_cl, qa_ltT, qa_ltF, qa_eqT, qa_eqF, qa_nN, qa_Nn, qa_ltN, qa_Nlt, qa_NN, qa_ltNN, qa_sub, qa_dec, qa_dec0, qa_sub0, qa_incN, qa_31, qa_shr, qa_shl, qa_and1, va_up_self, qa_une, pk_us, pk_un, qa_up2, qa_upd2, Option.bind_some, if_true, if_false, and_true, true_and, and_self, qa_f1, qa_f2, zM_about, zM_isIn, zM_hands, a0, a1, a4]⟩
    · exact ⟨w.1 84 5, by simp (disch := omega) only [↓reduceIte, ↓qa_b, qa_b, qa_lit, qa_neg1, qa_qN, nI_add, pk_mul, qa_ix, qa_cl, qa_ltT, qa_ltF, qa_eqT, qa_eqF, qa_nN, qa_Nn, qa_ltN, qa_Nlt, qa_NN, qa_ltNN, qa_sub, qa_dec, qa_dec0, qa_sub0, qa_incN, qa_31, qa_shr, qa_shl, qa_and1, va_up_self, qa_une, pk_us, pk_un, qa_up2, qa_upd2, Option.bind_some, if_true, if_false, and_true, true_and, and_self, qa_f1, qa_f2, zH_about, zH_about_J33, zH_about_J65, s12], by simp (disch := omega) only [↓reduceIte, ↓qa_b, qa_b, qa_lit, qa_neg1, qa_qN, nI_add, pk_mul, qa_ix, qa_cl, qa_ltT, qa_ltF, qa_eqT, qa_eqF, qa_nN, qa_Nn, qa_ltN, qa_Nlt, qa_NN, qa_ltNN, qa_sub, qa_dec, qa_dec0, qa_sub0, qa_incN, qa_31, qa_shr, qa_shl, qa_and1, va_up_self, qa_une, pk_us, pk_un, qa_up2, qa_upd2, Option.bind_some, if_true, if_false, and_true, true_and, and_self, qa_f1, qa_f2, zM_about, zM_isIn, zM_hands, a0, a1]⟩
    · exact ⟨nI bn, by simp (disch := omega) only [↓reduceIte, ↓qa_b, qa_b, qa_lit, qa_neg1, qa_qN, nI_add, pk_mul, qa_ix, qa_cl, qa_ltT, qa_ltF, qa_eqT, qa_eqF, qa_nN, qa_Nn, qa_ltN, qa_Nlt, qa_NN, qa_ltNN, qa_sub, qa_dec, qa_dec0, qa_sub0, qa_incN, qa_31, qa_shr, qa_shl, qa_and1, va_up_self, qa_une, pk_us, pk_un, qa_up2, qa_upd2, Option.bind_some, if_true, if_false, and_true, true_and, and_self, qa_f1, qa_f2, zH_about, zH_about_J33, zH_about_J65, s13], by simp (disch := omega) only [↓reduceIte, ↓qa_b, qa_b, qa_lit, qa_neg1, qa_qN, nI_add, pk_mul, qa_ix, qa_cl, qa_ltT, qa_ltF, qa_eqT, qa_eqF, qa_nN, qa_Nn, qa_ltN, qa_Nlt, qa_NN, qa_ltNN, qa_sub, qa_dec, qa_dec0, qa_sub0, qa_incN, qa_31, qa_shr, qa_shl, qa_and1, va_up_self, qa_une, pk_us, pk_un, qa_up2, qa_upd2, Option.bind_some, if_true, if_false, and_true, true_and, and_self, qa_f1, qa_f2, zM_about, zM_isIn, zM_hands, a0, a1, a6]⟩
    · exact ⟨nI tl, by simp (disch := omega) only [↓reduceIte, ↓qa_b, qa_b, qa_lit, qa_neg1, qa_qN, nI_add, pk_mul, qa_ix, qa_cl, qa_ltT, qa_ltF, qa_eqT, qa_eqF, qa_nN, qa_Nn, qa_ltN, qa_Nlt, qa_NN, qa_ltNN, qa_sub, qa_dec, qa_dec0, qa_sub0, qa_incN, qa_31, qa_shr, qa_shl, qa_and1, va_up_self, qa_une, pk_us, pk_un, qa_up2, qa_upd2, Option.bind_some, if_true, if_false, and_true, true_and, and_self, qa_f1, qa_f2, zH_about, zH_about_J33, zH_about_J65, g2], by simp (disch := omega) only [↓reduceIte, ↓qa_b, qa_b, qa_lit, qa_neg1, qa_qN, nI_add, pk_mul, qa_ix, qa_cl, qa_ltT, qa_ltF, qa_eqT, qa_eqF, qa_nN, qa_Nn, qa_ltN, qa_Nlt, qa_NN, qa_ltNN, qa_sub, qa_dec, qa_dec0, qa_sub0, qa_incN, qa_31, qa_shr, qa_shl, qa_and1, va_up_self, qa_une, pk_us, pk_un, qa_up2, qa_upd2, Option.bind_some, if_true, if_false, and_true, true_and, and_self, qa_f1, qa_f2, zM_about, zM_isIn, zM_hands, a0, a1, g1]⟩
    · exact ⟨-(nI 2), by simp (disch := omega) only [↓reduceIte, ↓qa_b, qa_b, qa_lit, qa_neg1, qa_qN, nI_add, pk_mul, qa_ix, qa_cl, qa_ltT, qa_ltF, qa_eqT, qa_eqF, qa_nN, qa_Nn, qa_ltN, qa_Nlt, qa_NN, qa_ltNN, qa_sub, qa_dec, qa_dec0, qa_sub0, qa_incN, qa_31, qa_shr, qa_shl, qa_and1, va_up_self, qa_une, pk_us, pk_un, qa_up2, qa_upd2, Option.bind_some, if_true, if_false, and_true, true_and, and_self, qa_f1, qa_f2, zH_about, zH_about_J33, zH_about_J65, n2], by simp (disch := omega) only [↓reduceIte, ↓qa_b, qa_b, qa_lit, qa_neg1, qa_qN, nI_add, pk_mul, qa_ix, qa_cl, qa_ltT, qa_ltF, qa_eqT, qa_eqF, qa_nN, qa_Nn, qa_ltN, qa_Nlt, qa_NN, qa_ltNN, qa_sub, qa_dec, qa_dec0, qa_sub0, qa_incN, qa_31, qa_shr, qa_shl, qa_and1, va_up_self, qa_une, pk_us, pk_un, qa_up2, qa_upd2, Option.bind_some, if_true, if_false, and_true, true_and, and_self, qa_f1, qa_f2, zM_about, zM_isIn, zM_hands, a0, a1, n2]⟩
  · obtain ⟨z, rfl⟩ : ∃ z, x = 10 + z := ⟨x - 10, by omega⟩
    refine ⟨h 6 z, ?_, ?_⟩
    · simp (disch := omega) only [↓reduceIte, ↓qa_b, qa_b, qa_lit, qa_neg1, qa_qN, nI_add, pk_mul, qa_ix, qa_cl, qa_ltT, qa_ltF, qa_eqT, qa_eqF, qa_nN, qa_Nn, qa_ltN, qa_Nlt, qa_NN, qa_ltNN, qa_sub, qa_dec, qa_dec0, qa_sub0, qa_incN, qa_31, qa_shr, qa_shl, qa_and1, va_up_self, qa_une, pk_us, pk_un, qa_up2, qa_upd2, Option.bind_some, if_true, if_false, and_true, true_and, and_self, qa_f1, qa_f2, zH_about, s4, Nat.add_sub_cancel_left]
    · have e : 34 + (10 + z) - 10 = 34 + z := by omega
      simp (disch := omega) only [↓reduceIte, ↓qa_b, qa_b, qa_lit, qa_neg1, qa_qN, nI_add, pk_mul, qa_ix, qa_cl, qa_ltT, qa_ltF, qa_eqT, qa_eqF, qa_nN, qa_Nn, qa_ltN, qa_Nlt, qa_NN, qa_ltNN, qa_sub, qa_dec, qa_dec0, qa_sub0, qa_incN, qa_31, qa_shr, qa_shl, qa_and1, va_up_self, qa_une, pk_us, pk_un, qa_up2, qa_upd2, Option.bind_some, if_true, if_false, and_true, true_and, and_self, qa_f1, qa_f2, zM_about, zM_isIn, a1, e, (Sf z (by omega)).2.2.1]
  · refine ⟨-(nI 2), ?_, ?_⟩
    · simp (disch := omega) only [↓reduceIte, ↓qa_b, qa_b, qa_lit, qa_neg1, qa_qN, nI_add, pk_mul, qa_ix, qa_cl, qa_ltT, qa_ltF, qa_eqT, qa_eqF, qa_nN, qa_Nn, qa_ltN, qa_Nlt, qa_NN, qa_ltNN, qa_sub, qa_dec, qa_dec0, qa_sub0, qa_incN, qa_31, qa_shr, qa_shl, qa_and1, va_up_self, qa_une, pk_us, pk_un, qa_up2, qa_upd2, Option.bind_some, if_true, if_false, and_true, true_and, and_self, qa_f1, qa_f2, zH_about, zH_about_J33, zH_about_J65, s4, n2]
    · simp (disch := omega) only [↓reduceIte, ↓qa_b, qa_b, qa_lit, qa_neg1, qa_qN, nI_add, pk_mul, qa_ix, qa_cl, qa_ltT, qa_ltF, qa_eqT, qa_eqF, qa_nN, qa_Nn, qa_ltN, qa_Nlt, qa_NN, qa_ltNN, qa_sub, qa_dec, qa_dec0, qa_sub0, qa_incN, qa_31, qa_shr, qa_shl, qa_and1, va_up_self, qa_une, pk_us, pk_un, qa_up2, qa_upd2, Option.bind_some, if_true, if_false, and_true, true_and, and_self, qa_f1, qa_f2, zM_about, zM_isIn, zM_hands, a0, a1, n2]
  · obtain ⟨z, rfl⟩ : ∃ z, x = 20 + z := ⟨x - 20, by omega⟩
    have e1 := qs_order lpn s1 hm1 (hd := z) (by omega)
    have e2 := qm_order lpn a0 hm2 (hd := z) (by omega)
    refine ⟨nI (qs_or hm pn z), ?_, ?_⟩
    · simp (disch := omega) only [↓reduceIte, ↓qa_b, qa_b, qa_lit, qa_neg1, qa_qN, nI_add, pk_mul, qa_ix, qa_cl, qa_ltT, qa_ltF, qa_eqT, qa_eqF, qa_nN, qa_Nn, qa_ltN, qa_Nlt, qa_NN, qa_ltNN, qa_sub, qa_dec, qa_dec0, qa_sub0, qa_incN, qa_31, qa_shr, qa_shl, qa_and1, va_up_self, qa_une, pk_us, pk_un, qa_up2, qa_upd2, Option.bind_some, if_true, if_false, and_true, true_and, and_self, qa_f1, qa_f2, zH_about, zH_about_J33, zG_hands, s1, s4, Nat.add_sub_cancel_left, e1]
    · simp (disch := omega) only [↓reduceIte, ↓qa_b, qa_b, qa_lit, qa_neg1, qa_qN, nI_add, pk_mul, qa_ix, qa_cl, qa_ltT, qa_ltF, qa_eqT, qa_eqF, qa_nN, qa_Nn, qa_ltN, qa_Nlt, qa_NN, qa_ltNN, qa_sub, qa_dec, qa_dec0, qa_sub0, qa_incN, qa_31, qa_shr, qa_shl, qa_and1, va_up_self, qa_une, pk_us, pk_un, qa_up2, qa_upd2, Option.bind_some, if_true, if_false, and_true, true_and, and_self, qa_f1, qa_f2, zM_about, zM_isIn, zM_hands, a0, a1, Nat.add_sub_cancel_left, e2]
  · refine ⟨-(nI 2), ?_, ?_⟩
    · simp (disch := omega) only [↓reduceIte, ↓qa_b, qa_b, qa_lit, qa_neg1, qa_qN, nI_add, pk_mul, qa_ix, qa_cl, qa_ltT, qa_ltF, qa_eqT, qa_eqF, qa_nN, qa_Nn, qa_ltN, qa_Nlt, qa_NN, qa_ltNN, qa_sub, qa_dec, qa_dec0, qa_sub0, qa_incN, qa_31, qa_shr, qa_shl, qa_and1, va_up_self, qa_une, pk_us, pk_un, qa_up2, qa_upd2, Option.bind_some, if_true, if_false, and_true, true_and, and_self, qa_f1, qa_f2, zH_about, zH_about_J33, zH_about_J65, zG_hands, s1, s4, n2]
    · simp (disch := omega) only [↓reduceIte, ↓qa_b, qa_b, qa_lit, qa_neg1, qa_qN, nI_add, pk_mul, qa_ix, qa_cl, qa_ltT, qa_ltF, qa_eqT, qa_eqF, qa_nN, qa_Nn, qa_ltN, qa_Nlt, qa_NN, qa_ltNN, qa_sub, qa_dec, qa_dec0, qa_sub0, qa_incN, qa_31, qa_shr, qa_shl, qa_and1, va_up_self, qa_une, pk_us, pk_un, qa_up2, qa_upd2, Option.bind_some, if_true, if_false, and_true, true_and, and_self, qa_f1, qa_f2, zM_about, zM_isIn, zM_hands, a0, a1, n2]
end
