/-! THE HEART: the reader: a token, on both sides -/
def qt_kind (T : Nat) : Nat := if T = 21 then 60 else if T = 22 then 4 else if T = 23 then 62 else if T = 24 then 5 else if T = 25 then 61 else if T = 26 then 35 else if T = 27 then 43 else if T = 28 then 45 else if T = 29 then 42 else if T = 30 then 47 else if T = 31 then 40 else if T = 32 then 41 else if T = 33 then 44 else if T = 34 then 59 else if T = 35 then 1 else 0
/-- the class's token T is the reference's -/
def qt_R (T : Nat) (kd : Int32) (wd : Int64) : Prop := (T < 21 ∧ kd = nI 2 ∧ wd = lN (qt_code T)) ∨ (21 ≤ T ∧ T ≤ 36 ∧ kd = nI (qt_kind T)) ∨ (T = 37 ∧ (kd = nI 3 ∨ (kd = nI 2 ∧ ∃ V, V < 2 ^ 63 ∧ wd = lN V ∧ ∀ j, j < 21 → V ≠ qt_code j)))
def qt_B (tl : Nat) (b : Nat → Nat) (h : Nat → Nat → Int32) (u : zHM) : Prop := h 56 1 = nI tl ∧ u.1 83 5 = nI tl ∧ tl ≤ 300 ∧ ∀ j, j < tl → h 57 j = nI (b j) ∧ u.1 87 j = nI (b j) ∧ b j < 256
/-- a token stands there -/
def qt_S (tl : Nat) (b : Nat → Nat) (h : Nat → Nat → Int32) (u : zHM) (sp nx T : Nat) : Prop := qt_B tl b h u ∧ (h 56 2 = nI nx ∧ u.1 83 8 = nI nx) ∧ (h 56 4 = nI sp ∧ u.1 83 9 = nI sp) ∧ (h 56 3 = nI T ∧ T ≤ 37) ∧ qt_R T (u.1 83 10) (u.2 83 12) ∧ (T = 35 → ∃ rn, h 56 5 = nI (min 10000 rn) ∧ u.1 83 11 = nI rn ∧ rn < 2000000) ∧ sp ≤ nx ∧ nx ≤ tl ∧ (T ≠ 36 → sp < nx)
/-- where a row of such signs ends -/
def qt_end (P : Nat → Bool) : Nat → Nat → Nat
  | 0, p => p
  | k + 1, p => if P p then qt_end P k (p + 1) else p
theorem qt_end_s (P : Nat → Bool) : ∀ k p, p ≤ qt_end P k p ∧ qt_end P k p ≤ p + k ∧ (∀ i, p ≤ i → i < qt_end P k p → P i = true) ∧ (qt_end P k p < p + k → P (qt_end P k p) = false)
  | 0, p => ⟨Nat.le_refl _, Nat.le_refl _, fun i a b => by unfold qt_end at b; omega, fun q => by unfold qt_end at q; omega⟩
  | k + 1, p => by
    unfold qt_end
    obtain ⟨a, b, c, d⟩ := qt_end_s P k (p + 1)
    cases h : P p
    · exact ⟨Nat.le_refl _, by simp, fun i x y => by simp at y; omega, fun _ => h⟩
    · rw [if_pos rfl]
      refine ⟨by omega, by omega, fun i x y => ?_, fun q => d (by omega)⟩
      by_cases e : i = p
      · rw [e]; exact h
      · exact c i (by omega) y
theorem qt_lH : ∀ c, c < 256 → zT_isLetter (nI c) = qs_b (qt_le c) ∧ zM_isLetter (nI c) = qs_b (qt_le c) ∧ zT_isDigit (nI c) = qs_b (qt_di c) ∧ zM_isDigit (nI c) = qs_b (qt_di c) := by decide +kernel
theorem qt_lN : zM_isLetter qN = nI 0 ∧ zM_isDigit qN = nI 0 := by decide +kernel
theorem qt_8 {V c : Nat} (hV : V < 2 ^ 48) (hc : c < 256) : (lN V <<< ((8 : Int32).toInt64 &&& 63)) ||| (nI c).toInt64 = lN (V * 256 + c) := by
  have e := wb_shl V (k := 8) (by decide)
  rw [show (nI 8) = (8 : Int32) from rfl] at e
  rw [e, nI_l (by omega), wb_or (by omega) (by omega)]
  congr 1
  have := Nat.two_pow_add_eq_or_of_lt (b := c) (i := 8) (by omega) V
  rw [Nat.mul_comm] at this
  omega
section
variable {tl : Nat} {b : Nat → Nat} {h : Nat → Nat → Int32} {u : zHM}
theorem qt_byteAt (e5 : u.1 83 5 = nI tl) (ht : tl ≤ 300) (eb : ∀ j, j < tl → u.1 87 j = nI (b j)) {p : Nat} (hp : p ≤ tl) : zM_byteAt (nI p) u = some (if p < tl then nI (b p) else qN) := by
  by_cases q : p < tl
  · have := eb p q
    rw [if_pos q]
    simp (disch := omega) only [↓reduceIte, zM_byteAt, e5, qa_ltT, qa_ix, qa_cl, this]
  · rw [if_neg q]
    simp (disch := omega) only [↓reduceIte, zM_byteAt, e5, qa_ltF, qa_neg1, qa_lit]
/-- a row of letters, in the class -/
theorem qt_wH (ht : tl ≤ 300) : ∀ (k m p : Nat) (h : Nat → Nat → Int32), p + k = tl → k < m → h 56 1 = nI tl → (∀ j, j < tl → h 57 j = nI (b j) ∧ b j < 256) → h 56 2 = nI p → zT_takeWord_L0 m h = zT_takeWord_L47 am_N (nI 0) (va_up h 56 (upd (upd (h 56) 2 (nI (qt_end (fun i => qt_le (b i)) k p))) 3 (nI 37)))
  | 0, m + 1, p, h, hp, _, e1, eb, e2 => by
    have : p = tl := by omega
    subst this
    rw [show qt_end (fun i => qt_le (b i)) 0 p = p from rfl, fa_upd_same e2]
    simp (disch := omega) only [↓reduceIte, ↓qa_b, zT_takeWord_L0, e1, e2, qa_ltF, qa_lit]
  | k + 1, m + 1, p, h, hp, hm, e1, eb, e2 => by
    obtain ⟨q1, q2⟩ := eb p (by omega)
    have ql := (qt_lH (b p) q2).1
    rw [show qt_end (fun i => qt_le (b i)) (k + 1) p = (if qt_le (b p) then qt_end (fun i => qt_le (b i)) k (p + 1) else p) from rfl]
    cases hl : qt_le (b p)
    · rw [hl] at ql
      rw [if_neg (by decide), fa_upd_same e2]
      simp (disch := omega) only [↓reduceIte, ↓qa_b, zT_takeWord_L0, e1, e2, qa_ltT, qa_lit, qa_ix, qa_cl, q1, ql, qs_b0]
    · rw [hl] at ql
      rw [if_pos rfl]
      have ih := qt_wH ht k m (p + 1) (va_up h 56 (upd (h 56) 2 (nI (p + 1)))) (by omega) (by omega) (by rw [va_up_self, pk_un (by omega)]; exact e1) (fun j hj => by rw [qa_une _ _ (by omega)]; exact eb j hj) (by rw [va_up_self, pk_us])
      rw [va_up_self, qa_up2, qa_upd2] at ih
      rw [← ih]
      simp (disch := omega) only [↓reduceIte, ↓qa_b, zT_takeWord_L0.eq_2, e1, e2, qa_ltT, qa_lit, qa_ix, qa_cl, q1, ql, qs_b0, Bool.true_eq_false, nI_add]
/-- and in the reference -/
theorem qt_wM (ht : tl ≤ 300) {s : Nat} : ∀ (k m p : Nat) (u : zHM), p + k = tl → k < m → s ≤ p → (∀ i, s ≤ i → i < p → qt_le (b i) = true) → u.1 83 5 = nI tl → (∀ j, j < tl → u.1 87 j = nI (b j) ∧ b j < 256) → u.1 83 8 = nI p → u.1 83 9 = nI s → (p - s ≤ 7 → u.2 83 12 = lN (qt_pk b s (p - s))) → ∃ u', zM_nextToken_L161 m u = some u' ∧ (∀ c, c ≠ 83 → u'.1 c = u.1 c) ∧ (∀ j, j ≠ 8 → u'.1 83 j = u.1 83 j) ∧ u'.1 83 8 = nI (qt_end (fun i => qt_le (b i)) k p) ∧ u'.2 83 12 = (if qt_end (fun i => qt_le (b i)) k p - s ≤ 7 then lN (qt_pk b s (qt_end (fun i => qt_le (b i)) k p - s)) else lN 0)
  | 0, m + 1, p, u, hp, _, hs, hl, e5, eb, e8, e9, ew => by
    have : p = tl := by omega
    subst this
    have ba := qt_byteAt e5 ht (fun j hj => (eb j hj).1) (Nat.le_refl p)
    rw [if_neg (by omega)] at ba
    rw [show qt_end (fun i => qt_le (b i)) 0 p = p from rfl]
    by_cases q : p - s ≤ 7
    · rw [if_pos q]
      refine ⟨u, ?_, fun _ _ => rfl, fun _ _ => rfl, e8, ew q⟩
      simp (disch := omega) only [↓reduceIte, ↓qa_b, zM_nextToken_L161, e8, e9, ba, Option.bind_some, qt_lN.1, qa_lit, qa_sub, qa_ltF]
    · rw [if_neg q]
      refine ⟨(u.1, va_up u.2 83 (vp_updL (u.2 83) 12 (lN 0))), ?_, fun _ _ => rfl, fun _ _ => rfl, e8, ?_⟩
      · simp (disch := omega) only [↓reduceIte, ↓qa_b, zM_nextToken_L161, e8, e9, ba, Option.bind_some, qt_lN.1, qa_lit, qa_sub, qa_ltT]
        rfl
      · show va_up u.2 83 _ 83 12 = _
        rw [va_up_self]
        rfl
  | k + 1, m + 1, p, u, hp, hm, hs, hl, e5, eb, e8, e9, ew => by
    obtain ⟨q1, q2⟩ := eb p (by omega)
    have ql := (qt_lH (b p) q2).2.1
    have ba := qt_byteAt e5 ht (fun j hj => (eb j hj).1) (show p ≤ tl by omega)
    rw [if_pos (by omega)] at ba
    rw [show qt_end (fun i => qt_le (b i)) (k + 1) p = (if qt_le (b p) then qt_end (fun i => qt_le (b i)) k (p + 1) else p) from rfl]
    cases hlp : qt_le (b p)
    · rw [hlp] at ql
      rw [if_neg (by decide)]
      by_cases q : p - s ≤ 7
      · rw [if_pos q]
        refine ⟨u, ?_, fun _ _ => rfl, fun _ _ => rfl, e8, ew q⟩
        simp (disch := omega) only [↓reduceIte, ↓qa_b, zM_nextToken_L161, e8, e9, ba, Option.bind_some, ql, qs_b0, qa_lit, qa_sub, qa_ltF]
      · rw [if_neg q]
        refine ⟨(u.1, va_up u.2 83 (vp_updL (u.2 83) 12 (lN 0))), ?_, fun _ _ => rfl, fun _ _ => rfl, e8, ?_⟩
        · simp (disch := omega) only [↓reduceIte, ↓qa_b, zM_nextToken_L161, e8, e9, ba, Option.bind_some, ql, qs_b0, qa_lit, qa_sub, qa_ltT]
          rfl
        · show va_up u.2 83 _ 83 12 = _
          rw [va_up_self]
          rfl
    · rw [hlp] at ql
      rw [if_pos rfl]
      have hl' : ∀ i, s ≤ i → i < p + 1 → qt_le (b i) = true := fun i a c => by
        by_cases e : i = p
        · rw [e]; exact hlp
        · exact hl i a (by omega)
      by_cases q : p - s < 7
      · have pl := qt_pk_lt (b := b) (s := s) (p - s) (fun i hi => (eb _ (by omega)).2)
        have p48 : qt_pk b s (p - s) < 2 ^ 48 := Nat.lt_of_lt_of_le pl (by
          rw [show (2 : Nat) ^ 48 = 256 ^ 6 by decide]
          exact Nat.pow_le_pow_right (by omega) (by omega))
        have e8' := qt_8 p48 q2
        rw [show qt_pk b s (p - s) * 256 + b p = qt_pk b s (p + 1 - s) by
          rw [show p + 1 - s = (p - s) + 1 by omega, show qt_pk b s (p - s + 1) = qt_pk b s (p - s) * 256 + b (s + (p - s)) from rfl, show s + (p - s) = p by omega]] at e8'
        have w12 := ew (by omega)
        obtain ⟨u', x1, x2, x3, x4, x5⟩ := qt_wM ht (s := s) k m (p + 1) ((va_up u.1 83 (upd (u.1 83) 8 (nI (p + 1))), va_up u.2 83 (vp_updL (u.2 83) 12 (lN (qt_pk b s (p + 1 - s))))) : zHM) (by omega) (by omega) (by omega) hl' (by simp (disch := omega) only [↓reduceIte, ↓qa_b, qa_b, qa_lit, qa_neg1, qa_qN, nI_add, pk_mul, qa_ix, qa_cl, qa_ltT, qa_ltF, qa_eqT, qa_eqF, qa_nN, qa_Nn, qa_ltN, qa_Nlt, qa_NN, qa_ltNN, qa_sub, qa_dec, qa_dec0, qa_sub0, qa_incN, qa_31, qa_shr, qa_shl, qa_and1, va_up_self, qa_une, pk_us, pk_un, qa_up2, qa_upd2, Option.bind_some, if_true, if_false, and_true, true_and, and_self, qa_f1, qa_f2]; exact e5) (fun j hj => by simp (disch := omega) only [↓reduceIte, ↓qa_b, qa_b, qa_lit, qa_neg1, qa_qN, nI_add, pk_mul, qa_ix, qa_cl, qa_ltT, qa_ltF, qa_eqT, qa_eqF, qa_nN, qa_Nn, qa_ltN, qa_Nlt, qa_NN, qa_ltNN, qa_sub, qa_dec, qa_dec0, qa_sub0, qa_incN, qa_31, qa_shr, qa_shl, qa_and1, va_up_self, qa_une, pk_us, pk_un, qa_up2, qa_upd2, Option.bind_some, if_true, if_false, and_true, true_and, and_self, qa_f1, qa_f2]; exact eb j hj) (by simp (disch := omega) only [↓reduceIte, ↓qa_b, qa_b, qa_lit, qa_neg1, qa_qN, nI_add, pk_mul, qa_ix, qa_cl, qa_ltT, qa_ltF, qa_eqT, qa_eqF, qa_nN, qa_Nn, qa_ltN, qa_Nlt, qa_NN, qa_ltNN, qa_sub, qa_dec, qa_dec0, qa_sub0, qa_incN, qa_31, qa_shr, qa_shl, qa_and1, va_up_self, qa_une, pk_us, pk_un, qa_up2, qa_upd2, Option.bind_some, if_true, if_false, and_true, true_and, and_self, qa_f1, qa_f2]) (by simp (disch := omega) only [↓reduceIte, ↓qa_b, qa_b, qa_lit, qa_neg1, qa_qN, nI_add, pk_mul, qa_ix, qa_cl, qa_ltT, qa_ltF, qa_eqT, qa_eqF, qa_nN, qa_Nn, qa_ltN, qa_Nlt, qa_NN, qa_ltNN, qa_sub, qa_dec, qa_dec0, qa_sub0, qa_incN, qa_31, qa_shr, qa_shl, qa_and1, va_up_self, qa_une, pk_us, pk_un, qa_up2, qa_upd2, Option.bind_some, if_true, if_false, and_true, true_and, and_self, qa_f1, qa_f2]; exact e9) (fun _ => by
          show va_up u.2 83 _ 83 12 = _
          rw [va_up_self]
          rfl)
        refine ⟨u', ?_, fun c hc => by rw [x2 c hc]; simp (disch := omega) only [↓reduceIte, ↓qa_b, qa_b, qa_lit, qa_neg1, qa_qN, nI_add, pk_mul, qa_ix, qa_cl, qa_ltT, qa_ltF, qa_eqT, qa_eqF, qa_nN, qa_Nn, qa_ltN, qa_Nlt, qa_NN, qa_ltNN, qa_sub, qa_dec, qa_dec0, qa_sub0, qa_incN, qa_31, qa_shr, qa_shl, qa_and1, va_up_self, qa_une, pk_us, pk_un, qa_up2, qa_upd2, Option.bind_some, if_true, if_false, and_true, true_and, and_self, qa_f1, qa_f2], fun j hj => by rw [x3 j hj]; simp (disch := omega) only [↓reduceIte, ↓qa_b, qa_b, qa_lit, qa_neg1, qa_qN, nI_add, pk_mul, qa_ix, qa_cl, qa_ltT, qa_ltF, qa_eqT, qa_eqF, qa_nN, qa_Nn, qa_ltN, qa_Nlt, qa_NN, qa_ltNN, qa_sub, qa_dec, qa_dec0, qa_sub0, qa_incN, qa_31, qa_shr, qa_shl, qa_and1, va_up_self, qa_une, pk_us, pk_un, qa_up2, qa_upd2, Option.bind_some, if_true, if_false, and_true, true_and, and_self, qa_f1, qa_f2], x4, x5⟩
        rw [← x1]
        simp (disch := omega) only [↓reduceIte, ↓qa_b, zM_nextToken_L161.eq_2, zM_nextToken_J210, e8, e9, ba, Option.bind_some, ql, qs_b0, Bool.true_eq_false, qa_lit, qa_sub, qa_ltT, w12, nI_add]
        rw [show ((nI 8).toInt64 &&& 63) = ((8 : Int32).toInt64 &&& 63) from rfl, e8']
      · obtain ⟨u', x1, x2, x3, x4, x5⟩ := qt_wM ht (s := s) k m (p + 1) ((va_up u.1 83 (upd (u.1 83) 8 (nI (p + 1))), u.2) : zHM) (by omega) (by omega) (by omega) hl' (by simp (disch := omega) only [↓reduceIte, ↓qa_b, qa_b, qa_lit, qa_neg1, qa_qN, nI_add, pk_mul, qa_ix, qa_cl, qa_ltT, qa_ltF, qa_eqT, qa_eqF, qa_nN, qa_Nn, qa_ltN, qa_Nlt, qa_NN, qa_ltNN, qa_sub, qa_dec, qa_dec0, qa_sub0, qa_incN, qa_31, qa_shr, qa_shl, qa_and1, va_up_self, qa_une, pk_us, pk_un, qa_up2, qa_upd2, Option.bind_some, if_true, if_false, and_true, true_and, and_self, qa_f1, qa_f2]; exact e5) (fun j hj => by simp (disch := omega) only [↓reduceIte, ↓qa_b, qa_b, qa_lit, qa_neg1, qa_qN, nI_add, pk_mul, qa_ix, qa_cl, qa_ltT, qa_ltF, qa_eqT, qa_eqF, qa_nN, qa_Nn, qa_ltN, qa_Nlt, qa_NN, qa_ltNN, qa_sub, qa_dec, qa_dec0, qa_sub0, qa_incN, qa_31, qa_shr, qa_shl, qa_and1, va_up_self, qa_une, pk_us, pk_un, qa_up2, qa_upd2, Option.bind_some, if_true, if_false, and_true, true_and, and_self, qa_f1, qa_f2]; exact eb j hj) (by simp (disch := omega) only [↓reduceIte, ↓qa_b, qa_b, qa_lit, qa_neg1, qa_qN, nI_add, pk_mul, qa_ix, qa_cl, qa_ltT, qa_ltF, qa_eqT, qa_eqF, qa_nN, qa_Nn, qa_ltN, qa_Nlt, qa_NN, qa_ltNN, qa_sub, qa_dec, qa_dec0, qa_sub0, qa_incN, qa_31, qa_shr, qa_shl, qa_and1, va_up_self, qa_une, pk_us, pk_un, qa_up2, qa_upd2, Option.bind_some, if_true, if_false, and_true, true_and, and_self, qa_f1, qa_f2]) (by simp (disch := omega) only [↓reduceIte, ↓qa_b, qa_b, qa_lit, qa_neg1, qa_qN, nI_add, pk_mul, qa_ix, qa_cl, qa_ltT, qa_ltF, qa_eqT, qa_eqF, qa_nN, qa_Nn, qa_ltN, qa_Nlt, qa_NN, qa_ltNN, qa_sub, qa_dec, qa_dec0, qa_sub0, qa_incN, qa_31, qa_shr, qa_shl, qa_and1, va_up_self, qa_une, pk_us, pk_un, qa_up2, qa_upd2, Option.bind_some, if_true, if_false, and_true, true_and, and_self, qa_f1, qa_f2]; exact e9) (fun q' => by omega)
        refine ⟨u', ?_, fun c hc => by rw [x2 c hc]; simp (disch := omega) only [↓reduceIte, ↓qa_b, qa_b, qa_lit, qa_neg1, qa_qN, nI_add, pk_mul, qa_ix, qa_cl, qa_ltT, qa_ltF, qa_eqT, qa_eqF, qa_nN, qa_Nn, qa_ltN, qa_Nlt, qa_NN, qa_ltNN, qa_sub, qa_dec, qa_dec0, qa_sub0, qa_incN, qa_31, qa_shr, qa_shl, qa_and1, va_up_self, qa_une, pk_us, pk_un, qa_up2, qa_upd2, Option.bind_some, if_true, if_false, and_true, true_and, and_self, qa_f1, qa_f2], fun j hj => by rw [x3 j hj]; simp (disch := omega) only [↓reduceIte, ↓qa_b, qa_b, qa_lit, qa_neg1, qa_qN, nI_add, pk_mul, qa_ix, qa_cl, qa_ltT, qa_ltF, qa_eqT, qa_eqF, qa_nN, qa_Nn, qa_ltN, qa_Nlt, qa_NN, qa_ltNN, qa_sub, qa_dec, qa_dec0, qa_sub0, qa_incN, qa_31, qa_shr, qa_shl, qa_and1, va_up_self, qa_une, pk_us, pk_un, qa_up2, qa_upd2, Option.bind_some, if_true, if_false, and_true, true_and, and_self, qa_f1, qa_f2], x4, x5⟩
        rw [← x1]
        simp (disch := omega) only [↓reduceIte, ↓qa_b, zM_nextToken_L161.eq_2, zM_nextToken_J210, e8, e9, ba, Option.bind_some, ql, qs_b0, Bool.true_eq_false, qa_lit, qa_sub, qa_ltF, nI_add]
end
