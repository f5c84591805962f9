/-! THE HEART: search: the class's list of ways -/
section
variable {h : Nat → Nat → Int32}
theorem qh_crsL {or : Nat → Nat} {pl b mi : Nat} (hb : b < 64) (hmi : mi < 64) (e67 : ∀ i, i < 6 → b.testBit i = true → h 67 i = nI (or i) ∧ or i < 64) : ∀ (k n i : Nat), i + k = 6 → k < n → zS_isCrossing_L11 n (nI pl) (nI b) (nI mi) (nI i) h = some (qs_b (qs_any (fun i => b.testBit i && (if or i < mi then decide (nI pl < h 75 i) else decide (h 75 i < nI pl))) i k))
  | 0, n + 1, i, hi, _ => by
    have : i = 6 := by omega
    subst this
    simp (disch := omega) only [↓reduceIte, ↓qa_b, qa_b, qa_lit, qa_neg1, qa_qN, nI_add, pk_mul, qa_ix, qa_cl, qa_ltT, qa_ltF, qa_eqT, qa_eqF, qa_nN, qa_Nn, qa_ltN, qa_Nlt, qa_NN, qa_ltNN, qa_sub, qa_dec, qa_dec0, qa_sub0, qa_incN, qa_31, qa_shr, qa_shl, qa_and1, va_up_self, qa_une, pk_us, pk_un, qa_up2, qa_upd2, Option.bind_some, if_true, if_false, and_true, true_and, and_self, qa_f1, qa_f2, zS_isCrossing_L11, qs_any]
    rfl
  | k + 1, n + 1, i, hi, hn => by
    have ih := qh_crsL (pl := pl) hb hmi e67 k n (i + 1) (by omega) (by omega)
    unfold qs_any
    cases hbi : b.testBit i
    · simp (disch := omega) only [↓reduceIte, zS_isCrossing_L11, qa_lit, qa_ltT, qa_31, qa_shr, qa_and1, qa_tb, hbi, nI_add, ih, Bool.false_and, Bool.false_or, Bool.false_eq_true]
    · obtain ⟨e, ho⟩ := e67 i (by omega) hbi
      by_cases hc : or i < mi
      · by_cases hs : nI pl < h 75 i
        · simp (disch := omega) only [↓reduceIte, zS_isCrossing_L11, zS_isCrossing_J74, qa_lit, qa_ltT, qa_31, qa_shr, qa_and1, qa_tb, hbi, qa_ix, qa_cl, e, hc, hs, qa_eqF, decide_true, Bool.true_and, Bool.true_or, Bool.true_eq_false]
          rfl
        · simp (disch := omega) only [↓reduceIte, zS_isCrossing_L11, zS_isCrossing_J74, qa_lit, qa_ltT, qa_31, qa_shr, qa_and1, qa_tb, hbi, qa_ix, qa_cl, e, hc, hs, nI_add, ih, decide_false, Bool.true_and, Bool.false_or, Bool.true_eq_false]
      · by_cases hs : h 75 i < nI pl
        · simp (disch := omega) only [↓reduceIte, zS_isCrossing_L11, zS_isCrossing_J74, qa_lit, qa_ltT, qa_ltF, qa_31, qa_shr, qa_and1, qa_tb, hbi, qa_ix, qa_cl, e, hc, hs, qa_eqF, decide_true, Bool.true_and, Bool.true_or, Bool.true_eq_false]
          rfl
        · simp (disch := omega) only [↓reduceIte, zS_isCrossing_L11, zS_isCrossing_J74, qa_lit, qa_ltT, qa_ltF, qa_31, qa_shr, qa_and1, qa_tb, hbi, qa_ix, qa_cl, e, hc, hs, nI_add, ih, decide_false, Bool.true_and, Bool.false_or, Bool.true_eq_false]
theorem qh_putL {x : Nat} (hx : x < 64) (v : Int32) : ∀ (k n i : Nat) (h : Nat → Nat → Int32), i + k = 6 → k < n → ∃ h', zS_putHands_L2 n (nI x) v (nI i) h = some h' ∧ (∀ c, c ≠ 75 → h' c = h c) ∧ ∀ j, h' 75 j = if i ≤ j ∧ j < 6 ∧ x.testBit j = true then v else h 75 j
  | 0, n + 1, i, h, hi, _ => by
    have : i = 6 := by omega
    subst this
    refine ⟨h, ?_, fun _ _ => rfl, fun j => by rw [if_neg (by omega)]⟩
    simp (disch := omega) only [↓reduceIte, ↓qa_b, qa_b, qa_lit, qa_neg1, qa_qN, nI_add, pk_mul, qa_ix, qa_cl, qa_ltT, qa_ltF, qa_eqT, qa_eqF, qa_nN, qa_Nn, qa_ltN, qa_Nlt, qa_NN, qa_ltNN, qa_sub, qa_dec, qa_dec0, qa_sub0, qa_incN, qa_31, qa_shr, qa_shl, qa_and1, va_up_self, qa_une, pk_us, pk_un, qa_up2, qa_upd2, Option.bind_some, if_true, if_false, and_true, true_and, and_self, qa_f1, qa_f2, zS_putHands_L2]
  | k + 1, n + 1, i, h, hi, hn => by
    cases hb : x.testBit i
    · obtain ⟨h', e, g1, g2⟩ := qh_putL hx v k n (i + 1) h (by omega) (by omega)
      refine ⟨h', ?_, g1, fun j => ?_⟩
      · simp (disch := omega) only [↓reduceIte, zS_putHands_L2, qa_lit, qa_ltT, qa_31, qa_shr, qa_and1, qa_tb, hb, nI_add]
        exact e
      · rw [g2 j]
        by_cases hj : j = i
        · subst hj
          rw [if_neg (by omega), if_neg (by rw [hb]; simp)]
        · by_cases hc : i ≤ j ∧ j < 6 ∧ x.testBit j = true
          · rw [if_pos hc, if_pos ⟨by omega, hc.2⟩]
          · rw [if_neg hc, if_neg (fun z => hc ⟨by omega, z.2⟩)]
    · obtain ⟨h', e, g1, g2⟩ := qh_putL hx v k n (i + 1) (va_up h 75 (upd (h 75) i v)) (by omega) (by omega)
      refine ⟨h', ?_, fun c hc => ?_, fun j => ?_⟩
      · simp (disch := omega) only [↓reduceIte, ↓qa_b, zS_putHands_L2, qa_lit, qa_ltT, qa_31, qa_shr, qa_and1, qa_tb, hb, nI_add, qa_ix, qa_cl, Bool.true_eq_false]
        exact e
      · rw [g1 c hc]
        simp (disch := omega) only [↓reduceIte, ↓qa_b, qa_b, qa_lit, qa_neg1, qa_qN, nI_add, pk_mul, qa_ix, qa_cl, qa_ltT, qa_ltF, qa_eqT, qa_eqF, qa_nN, qa_Nn, qa_ltN, qa_Nlt, qa_NN, qa_ltNN, qa_sub, qa_dec, qa_dec0, qa_sub0, qa_incN, qa_31, qa_shr, qa_shl, qa_and1, va_up_self, qa_une, pk_us, pk_un, qa_up2, qa_upd2, Option.bind_some, if_true, if_false, and_true, true_and, and_self, qa_f1, qa_f2]
      · rw [g2 j]
        by_cases hj : j = i
        · subst hj
          rw [if_neg (by omega), if_pos ⟨by omega, by omega, hb⟩]
          simp (disch := omega) only [↓reduceIte, ↓qa_b, qa_b, qa_lit, qa_neg1, qa_qN, nI_add, pk_mul, qa_ix, qa_cl, qa_ltT, qa_ltF, qa_eqT, qa_eqF, qa_nN, qa_Nn, qa_ltN, qa_Nlt, qa_NN, qa_ltNN, qa_sub, qa_dec, qa_dec0, qa_sub0, qa_incN, qa_31, qa_shr, qa_shl, qa_and1, va_up_self, qa_une, pk_us, pk_un, qa_up2, qa_upd2, Option.bind_some, if_true, if_false, and_true, true_and, and_self, qa_f1, qa_f2]
        · have : va_up h 75 (upd (h 75) i v) 75 j = h 75 j := by
            simp (disch := omega) only [↓reduceIte, ↓qa_b, qa_b, qa_lit, qa_neg1, qa_qN, nI_add, pk_mul, qa_ix, qa_cl, qa_ltT, qa_ltF, qa_eqT, qa_eqF, qa_nN, qa_Nn, qa_ltN, qa_Nlt, qa_NN, qa_ltNN, qa_sub, qa_dec, qa_dec0, qa_sub0, qa_incN, qa_31, qa_shr, qa_shl, qa_and1, va_up_self, qa_une, pk_us, pk_un, qa_up2, qa_upd2, Option.bind_some, if_true, if_false, and_true, true_and, and_self, qa_f1, qa_f2]
          rw [this]
          by_cases hc : i ≤ j ∧ j < 6 ∧ x.testBit j = true
          · rw [if_pos hc, if_pos ⟨by omega, hc.2⟩]
          · rw [if_neg hc, if_neg (fun z => hc ⟨by omega, z.2⟩)]
end
/-- the ways that lie at beat t, as numbers -/
def qh_rows (fn t : Nat) (h : Nat → Nat → Int32) (l : List (Nat → Nat)) : Prop := h 73 t = nI l.length ∧ ∀ i c, l[i]? = some c → h 71 (t * 720 + i) = nI (qw_e c fn)
/-- and those of other beats, and all else -/
def qh_oth (t : Nat) (h v : Nat → Nat → Int32) : Prop := (∀ c, c ≠ 71 → c ≠ 73 → c ≠ 75 → v c = h c) ∧ (∀ j, j ≠ t → v 73 j = h 73 j) ∧ ∀ j, j < t * 720 ∨ t * 720 + 720 ≤ j → v 71 j = h 71 j
theorem qh_oth.rf (t : Nat) (h : Nat → Nat → Int32) : qh_oth t h h := ⟨fun _ _ _ _ => rfl, fun _ _ => rfl, fun _ _ => rfl⟩
theorem qh_oth.tr {t : Nat} {w u v : Nat → Nat → Int32} (h1 : qh_oth t w u) (h2 : qh_oth t u v) : qh_oth t w v := ⟨fun c a b d => (h2.1 c a b d).trans (h1.1 c a b d), fun j hj => (h2.2.1 j hj).trans (h1.2.1 j hj), fun j hj => (h2.2.2 j hj).trans (h1.2.2 j hj)⟩
theorem qh_keep {fn t : Nat} {h : Nat → Nat → Int32} {l : List (Nat → Nat)} (ht : t < 24) (hl : l.length < 720) (c : Nat → Nat) (hr : qh_rows fn t h l) : ∃ h', zS_keep (nI t) (nI (qw_e c fn)) h = some h' ∧ qh_oth t h h' ∧ h' 75 = h 75 ∧ qh_rows fn t h' (l ++ [c]) := by
  refine ⟨va_up (va_up h 71 (upd (h 71) (t * 720 + l.length) (nI (qw_e c fn)))) 73 (upd (h 73) t (nI (l.length + 1))), ?_, ⟨fun c a b d => ?_, fun j hj => ?_, fun j hj => ?_⟩, ?_, ?_, fun i c' hc => ?_⟩
  · have := hr.1
    simp (disch := omega) only [↓reduceIte, ↓qa_b, qa_b, qa_lit, qa_neg1, qa_qN, nI_add, pk_mul, qa_ix, qa_cl, qa_ltT, qa_ltF, qa_eqT, qa_eqF, qa_nN, qa_Nn, qa_ltN, qa_Nlt, qa_NN, qa_ltNN, qa_sub, qa_dec, qa_dec0, qa_sub0, qa_incN, qa_31, qa_shr, qa_shl, qa_and1, va_up_self, qa_une, pk_us, pk_un, qa_up2, qa_upd2, Option.bind_some, if_true, if_false, and_true, true_and, and_self, qa_f1, qa_f2, zS_keep, this]
  · simp (disch := omega) only [↓reduceIte, ↓qa_b, qa_b, qa_lit, qa_neg1, qa_qN, nI_add, pk_mul, qa_ix, qa_cl, qa_ltT, qa_ltF, qa_eqT, qa_eqF, qa_nN, qa_Nn, qa_ltN, qa_Nlt, qa_NN, qa_ltNN, qa_sub, qa_dec, qa_dec0, qa_sub0, qa_incN, qa_31, qa_shr, qa_shl, qa_and1, va_up_self, qa_une, pk_us, pk_un, qa_up2, qa_upd2, Option.bind_some, if_true, if_false, and_true, true_and, and_self, qa_f1, qa_f2]
  · simp (disch := omega) only [↓reduceIte, ↓qa_b, qa_b, qa_lit, qa_neg1, qa_qN, nI_add, pk_mul, qa_ix, qa_cl, qa_ltT, qa_ltF, qa_eqT, qa_eqF, qa_nN, qa_Nn, qa_ltN, qa_Nlt, qa_NN, qa_ltNN, qa_sub, qa_dec, qa_dec0, qa_sub0, qa_incN, qa_31, qa_shr, qa_shl, qa_and1, va_up_self, qa_une, pk_us, pk_un, qa_up2, qa_upd2, Option.bind_some, if_true, if_false, and_true, true_and, and_self, qa_f1, qa_f2]
  · simp (disch := omega) only [↓reduceIte, ↓qa_b, qa_b, qa_lit, qa_neg1, qa_qN, nI_add, pk_mul, qa_ix, qa_cl, qa_ltT, qa_ltF, qa_eqT, qa_eqF, qa_nN, qa_Nn, qa_ltN, qa_Nlt, qa_NN, qa_ltNN, qa_sub, qa_dec, qa_dec0, qa_sub0, qa_incN, qa_31, qa_shr, qa_shl, qa_and1, va_up_self, qa_une, pk_us, pk_un, qa_up2, qa_upd2, Option.bind_some, if_true, if_false, and_true, true_and, and_self, qa_f1, qa_f2]
  · simp (disch := omega) only [↓reduceIte, ↓qa_b, qa_b, qa_lit, qa_neg1, qa_qN, nI_add, pk_mul, qa_ix, qa_cl, qa_ltT, qa_ltF, qa_eqT, qa_eqF, qa_nN, qa_Nn, qa_ltN, qa_Nlt, qa_NN, qa_ltNN, qa_sub, qa_dec, qa_dec0, qa_sub0, qa_incN, qa_31, qa_shr, qa_shl, qa_and1, va_up_self, qa_une, pk_us, pk_un, qa_up2, qa_upd2, Option.bind_some, if_true, if_false, and_true, true_and, and_self, qa_f1, qa_f2]
  · simp (disch := omega) only [↓reduceIte, ↓qa_b, qa_b, qa_lit, qa_neg1, qa_qN, nI_add, pk_mul, qa_ix, qa_cl, qa_ltT, qa_ltF, qa_eqT, qa_eqF, qa_nN, qa_Nn, qa_ltN, qa_Nlt, qa_NN, qa_ltNN, qa_sub, qa_dec, qa_dec0, qa_sub0, qa_incN, qa_31, qa_shr, qa_shl, qa_and1, va_up_self, qa_une, pk_us, pk_un, qa_up2, qa_upd2, Option.bind_some, if_true, if_false, and_true, true_and, and_self, qa_f1, qa_f2, List.length_append, List.length_singleton]
  · rw [List.getElem?_append] at hc
    split at hc
    · next hi =>
      simp (disch := omega) only [↓reduceIte, ↓qa_b, qa_b, qa_lit, qa_neg1, qa_qN, nI_add, pk_mul, qa_ix, qa_cl, qa_ltT, qa_ltF, qa_eqT, qa_eqF, qa_nN, qa_Nn, qa_ltN, qa_Nlt, qa_NN, qa_ltNN, qa_sub, qa_dec, qa_dec0, qa_sub0, qa_incN, qa_31, qa_shr, qa_shl, qa_and1, va_up_self, qa_une, pk_us, pk_un, qa_up2, qa_upd2, Option.bind_some, if_true, if_false, and_true, true_and, and_self, qa_f1, qa_f2]
      exact hr.2 i c' hc
    · next hi =>
      have hi2 : i = l.length := by
        by_cases h : i - l.length = 0
        · omega
        · rw [List.getElem?_eq_none (by simp; omega)] at hc
          cases hc
      subst hi2
      rw [Nat.sub_self] at hc
      cases hc
      simp (disch := omega) only [↓reduceIte, ↓qa_b, qa_b, qa_lit, qa_neg1, qa_qN, nI_add, pk_mul, qa_ix, qa_cl, qa_ltT, qa_ltF, qa_eqT, qa_eqF, qa_nN, qa_Nn, qa_ltN, qa_Nlt, qa_NN, qa_ltNN, qa_sub, qa_dec, qa_dec0, qa_sub0, qa_incN, qa_31, qa_shr, qa_shl, qa_and1, va_up_self, qa_une, pk_us, pk_un, qa_up2, qa_upd2, Option.bind_some, if_true, if_false, and_true, true_and, and_self, qa_f1, qa_f2]
