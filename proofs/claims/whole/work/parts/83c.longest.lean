/-! THE HEART: longest -/
/-- the hands that are busy in a beat, of the first figures -/
def qs_by (a : Nat → Int32) (t : Nat) : Nat → Nat
  | 0 => 0
  | f + 1 => qs_by a t f ||| qv a (200 + 6 * t + f)
/-- how long a hand has been busy -/
def qs_rn (a : Nat → Int32) (fn hd : Nat) : Nat → Nat
  | 0 => if (qs_by a 0 fn).testBit hd then 1 else 0
  | t + 1 => if (qs_by a (t + 1) fn).testBit hd then qs_rn a fn hd t + 1 else 0
def qs_mx (a : Nat → Int32) (fn hd : Nat) : Nat → Nat
  | 0 => 0
  | t + 1 => max (qs_mx a fn hd t) (qs_rn a fn hd t)
theorem qs_by_s (a : Nat → Int32) (t f : Nat) : qs_by a t (f + 1) = qs_by a t f ||| qv a (200 + 6 * t + f) := rfl
theorem qs_rn_le (a : Nat → Int32) (fn hd : Nat) : ∀ t, qs_rn a fn hd t ≤ t + 1
  | 0 => by unfold qs_rn; split <;> omega
  | t + 1 => by
    have := qs_rn_le a fn hd t
    unfold qs_rn
    split <;> omega
theorem qs_mx_le (a : Nat → Int32) (fn hd : Nat) : ∀ t, qs_mx a fn hd t ≤ t
  | 0 => Nat.le_refl 0
  | t + 1 => by
    have h1 := qs_mx_le a fn hd t
    have h2 := qs_rn_le a fn hd t
    unfold qs_mx
    omega
theorem qa_tb (x k : Nat) : (nI (x / 2 ^ k % 2) = nI 0) = (x.testBit k = false) := by
  rw [Nat.testBit_eq_decide_div_mod_eq]
  rcases Nat.mod_two_eq_zero_or_one (x / 2 ^ k) with h | h
  · rw [h]; simp
  · rw [h]
    have : ¬ nI 1 = nI 0 := by decide
    simp [this]
theorem qa_tb1 (x k : Nat) : (nI (x / 2 ^ k % 2) = nI 1) = (x.testBit k = true) := by
  rw [Nat.testBit_eq_decide_div_mod_eq]
  rcases Nat.mod_two_eq_zero_or_one (x / 2 ^ k) with h | h
  · rw [h]
    have : ¬ nI 0 = nI 1 := by decide
    simp [this]
  · rw [h]; simp
section
variable {L P pn fn tn bn : Nat} {h : Nat → Nat → Int32} {w : zHM}
/-- what is held is a number below 64 -/
theorem qi_hd (HA : qi_a L P pn fn tn bn (w.1 84)) {t f : Nat} (ht : t < bn) (hf : f < fn) : w.1 84 (200 + 6 * t + f) = nI (qv (w.1 84) (200 + 6 * t + f)) ∧ qv (w.1 84) (200 + 6 * t + f) < 4 ^ pn ∧ qv (w.1 84) (200 + 6 * t + f) < 64 := by
  have hp : 4 ^ pn ≤ 4 ^ 3 := Nat.pow_le_pow_right (by omega) HA.1.2.2.2.2.1
  have e := qv_of (P := 4 ^ pn) (by omega) (HA.2.2.2.2.2.2 t f ht hf).2
  exact ⟨e.1, e.2, by omega⟩
theorem qs_by_lt (HA : qi_a L P pn fn tn bn (w.1 84)) {t : Nat} (ht : t < bn) : ∀ f, f ≤ fn → qs_by (w.1 84) t f < 64
  | 0, _ => Nat.zero_lt_succ 63
  | f + 1, hf => Nat.or_lt_two_pow (n := 6) (qs_by_lt HA ht f (by omega)) (qi_hd HA ht (by omega)).2.2
theorem qh_busyL (HA : qi_a L P pn fn tn bn (w.1 84)) (HS : qi_stg 0 P pn fn tn bn h (w.1 84)) {t : Nat} (ht : t < bn) : ∀ (k n f : Nat), f + k = fn → k < n → zG_busyHands_L4 n (nI t) (nI (qs_by (w.1 84) t f)) (nI f) h = some (nI (qs_by (w.1 84) t fn))
  | 0, n + 1, f, hf, _ => by
    have : f = fn := by omega
    subst this
    have e4 := (qi_stg0 HS).1.2.2.1
    obtain ⟨-, -, -, -, lpn, lfn, ltn, lbn⟩ := HA.1
    simp (disch := omega) only [↓reduceIte, ↓qa_b, qa_b, qa_lit, qa_neg1, qa_qN, nI_add, pk_mul, qa_ix, qa_cl, qa_ltT, qa_ltF, qa_eqT, qa_eqF, qa_nN, qa_Nn, qa_ltN, qa_Nlt, qa_NN, qa_ltNN, qa_sub, qa_dec, qa_dec0, qa_sub0, qa_incN, qa_31, qa_shr, qa_shl, qa_and1, va_up_self, qa_une, pk_us, pk_un, qa_up2, qa_upd2, Option.bind_some, if_true, if_false, and_true, true_and, and_self, qa_f1, qa_f2, zG_busyHands_L4, e4]
  | k + 1, n + 1, f, hf, hn => by
    have e4 := (qi_stg0 HS).1.2.2.1
    obtain ⟨-, -, -, -, lpn, lfn, ltn, lbn⟩ := HA.1
    have ih := qh_busyL HA HS ht k n (f + 1) (by omega) (by omega)
    have e9 := ((qi_stg0 HS).2.2.2.2.1 t f ht (by omega)).2
    rw [(qi_hd HA ht (show f < fn by omega)).1] at e9
    rw [qs_by_s] at ih
    simp (disch := omega) only [↓reduceIte, ↓qa_b, qa_b, qa_lit, qa_neg1, qa_qN, nI_add, pk_mul, qa_ix, qa_cl, qa_ltT, qa_ltF, qa_eqT, qa_eqF, qa_nN, qa_Nn, qa_ltN, qa_Nlt, qa_NN, qa_ltNN, qa_sub, qa_dec, qa_dec0, qa_sub0, qa_incN, qa_31, qa_shr, qa_shl, qa_and1, va_up_self, qa_une, pk_us, pk_un, qa_up2, qa_upd2, Option.bind_some, if_true, if_false, and_true, true_and, and_self, qa_f1, qa_f2, zG_busyHands_L4, e4, e9, fa_or]
    exact ih
theorem qh_busy (HA : qi_a L P pn fn tn bn (w.1 84)) (HS : qi_stg 0 P pn fn tn bn h (w.1 84)) {t : Nat} (ht : t < bn) : zG_busyHands (nI t) h = some (nI (qs_by (w.1 84) t fn)) := qh_busyL HA HS ht fn am_N 0 (by omega) (Nat.lt_of_le_of_lt HA.1.2.2.2.2.2.1 (by decide))
theorem qm_longI (HA : qi_a L P pn fn tn bn (w.1 84)) {t hd : Nat} (ht : t < bn) (hh : hd < 6) (K : Int32 → Int32 → Int32 → zHM → Option Int32) (c : Nat) : ∀ (k n f : Nat), f + k = fn → k < n → zM_longFor_L16 K n (nI hd) (nI c) (nI t) (qs_b ((qs_by (w.1 84) t f).testBit hd)) (nI f) w = if (qs_by (w.1 84) t fn).testBit hd then K (nI hd) (nI (c + 1)) (nI t + qN) w else some (nI c)
  | 0, n + 1, f, hf, _ => by
    have : f = fn := by omega
    subst this
    obtain ⟨a0, a1, -, -, lpn, lfn, ltn, lbn⟩ := HA.1
    cases hb : (qs_by (w.1 84) t f).testBit hd
    · simp (disch := omega) only [↓reduceIte, ↓qa_b, zM_longFor_L16, a1, qa_ltF, qa_lit, qs_b0, Bool.false_eq_true]
    · simp (disch := omega) only [↓reduceIte, ↓qa_b, zM_longFor_L16, a1, qa_ltF, qa_lit, qs_b0, Bool.true_eq_false, nI_add, qa_qN, qa_neg1]
  | k + 1, n + 1, f, hf, hn => by
    obtain ⟨a0, a1, -, -, lpn, lfn, ltn, lbn⟩ := HA.1
    have ih := qm_longI HA ht hh K c k n (f + 1) (by omega) (by omega)
    obtain ⟨e1, -, e2⟩ := qi_hd HA ht (show f < fn by omega)
    have eh := qm_heldBy (w := w) (t := t) (f := f) (by omega) (by omega)
    rw [e1] at eh
    rw [qs_by_s, Nat.testBit_or] at ih
    cases hb : (qs_by (w.1 84) t f).testBit hd
    · rw [hb] at ih
      cases hv : (qv (w.1 84) (200 + 6 * t + f)).testBit hd
      · rw [hv] at ih
        simp (disch := omega) only [↓reduceIte, ↓qa_b, zM_longFor_L16, a1, qa_ltT, qa_lit, qs_b0, eh, Option.bind_some, qa_31, qa_shr, qa_and1, qa_tb1, hv, Bool.false_eq_true, nI_add]
        exact ih
      · rw [hv] at ih
        simp (disch := omega) only [↓reduceIte, ↓qa_b, zM_longFor_L16, a1, qa_ltT, qa_lit, qs_b0, eh, Option.bind_some, qa_31, qa_shr, qa_and1, qa_tb1, hv, nI_add]
        exact ih
    · rw [hb] at ih
      simp (disch := omega) only [↓reduceIte, ↓qa_b, zM_longFor_L16, a1, qa_ltT, qa_lit, qs_b0, Bool.true_eq_false, nI_add]
      exact ih
theorem qm_longL (HA : qi_a L P pn fn tn bn (w.1 84)) {hd : Nat} (hh : hd < 6) : ∀ (t n c : Nat), t < bn → t + 1 < n → zM_longFor_L5 n (nI hd) (nI c) (nI t) w = some (nI (c + qs_rn (w.1 84) fn hd t))
  | 0, n + 2, c, ht, _ => by
    obtain ⟨a0, a1, -, -, lpn, lfn, ltn, lbn⟩ := HA.1
    have e := qm_longI HA ht hh (fun v2 v3 v4 w => zM_longFor_L5 (n + 1) v2 v3 v4 w) c fn am_N 0 (by omega) (Nat.lt_of_le_of_lt lfn (by decide))
    have e0 : (qs_by (w.1 84) 0 0).testBit hd = false := Nat.zero_testBit hd
    rw [e0] at e
    unfold qs_rn
    rw [show zM_longFor_L5 (n + 2) (nI hd) (nI c) (nI 0) w = zM_longFor_L16 (fun v2 v3 v4 w => zM_longFor_L5 (n + 1) v2 v3 v4 w) am_N (nI hd) (nI c) (nI 0) (nI 0) (nI 0) w by
      rw [zM_longFor_L5]
      simp (disch := omega) only [↓reduceIte, qa_lit, qa_ltF]]
    refine e.trans ?_
    cases hb : (qs_by (w.1 84) 0 fn).testBit hd
    · simp only [Bool.false_eq_true, if_false, Nat.add_zero]
    · simp only [if_true]
      rw [qa_dec0, zM_longFor_L5]
      simp only [qa_lit, qa_Nlt0, if_true]
  | t + 1, n + 1, c, ht, hn => by
    obtain ⟨a0, a1, -, -, lpn, lfn, ltn, lbn⟩ := HA.1
    have e := qm_longI HA ht hh (fun v2 v3 v4 w => zM_longFor_L5 n v2 v3 v4 w) c fn am_N 0 (by omega) (Nat.lt_of_le_of_lt lfn (by decide))
    have e0 : (qs_by (w.1 84) (t + 1) 0).testBit hd = false := Nat.zero_testBit hd
    rw [e0] at e
    have ih := qm_longL HA hh t n (c + 1) (by omega) (by omega)
    unfold qs_rn
    rw [show zM_longFor_L5 (n + 1) (nI hd) (nI c) (nI (t + 1)) w = zM_longFor_L16 (fun v2 v3 v4 w => zM_longFor_L5 n v2 v3 v4 w) am_N (nI hd) (nI c) (nI (t + 1)) (nI 0) (nI 0) w by
      rw [zM_longFor_L5]
      simp (disch := omega) only [↓reduceIte, qa_lit, qa_ltF]]
    refine e.trans ?_
    cases hb : (qs_by (w.1 84) (t + 1) fn).testBit hd
    · simp only [Bool.false_eq_true, if_false, Nat.add_zero]
    · simp only [if_true]
      rw [qa_dec (by omega), Nat.add_sub_cancel, ih, Nat.add_assoc, Nat.add_comm 1]
theorem qm_longFor (HA : qi_a L P pn fn tn bn (w.1 84)) {t hd : Nat} (ht : t < bn) (hh : hd < 6) : zM_longFor (nI t) (nI hd) w = some (nI (qs_rn (w.1 84) fn hd t)) := by
  have e := qm_longL HA hh t am_N 0 ht (Nat.lt_of_le_of_lt (show t + 1 ≤ 24 by have := HA.1; omega) (by decide))
  rw [Nat.zero_add] at e
  exact e
theorem qm_longT (HA : qi_a L P pn fn tn bn (w.1 84)) {hd : Nat} (hh : hd < 6) : ∀ (k n t : Nat), t + k = bn → k < n → zM_longest_L20 n (nI hd) (nI (qs_mx (w.1 84) fn hd t)) (nI t) w = some (nI (qs_mx (w.1 84) fn hd bn))
  | 0, n + 1, t, ht, _ => by
    have : t = bn := by omega
    subst this
    obtain ⟨a0, a1, a4, a6, lpn, lfn, ltn, lbn⟩ := HA.1
    simp (disch := omega) only [↓reduceIte, ↓qa_b, qa_b, qa_lit, qa_neg1, qa_qN, nI_add, pk_mul, qa_ix, qa_cl, qa_ltT, qa_ltF, qa_eqT, qa_eqF, qa_nN, qa_Nn, qa_ltN, qa_Nlt, qa_NN, qa_ltNN, qa_sub, qa_dec, qa_dec0, qa_sub0, qa_incN, qa_31, qa_shr, qa_shl, qa_and1, va_up_self, qa_une, pk_us, pk_un, qa_up2, qa_upd2, Option.bind_some, if_true, if_false, and_true, true_and, and_self, qa_f1, qa_f2, zM_longest_L20, a6]
  | k + 1, n + 1, t, ht, hn => by
    obtain ⟨a0, a1, a4, a6, lpn, lfn, ltn, lbn⟩ := HA.1
    have e := qm_longFor HA (show t < bn by omega) hh
    have ih := qm_longT HA hh k n (t + 1) (by omega) (by omega)
    have b1 := qs_mx_le (w.1 84) fn hd t
    have b2 := qs_rn_le (w.1 84) fn hd t
    rw [show qs_mx (w.1 84) fn hd (t + 1) = max (qs_mx (w.1 84) fn hd t) (qs_rn (w.1 84) fn hd t) from rfl] at ih
    by_cases hc : qs_mx (w.1 84) fn hd t < qs_rn (w.1 84) fn hd t
    · rw [Nat.max_eq_right (by omega)] at ih
      simp (disch := omega) only [↓reduceIte, ↓qa_b, qa_b, qa_lit, qa_neg1, qa_qN, nI_add, pk_mul, qa_ix, qa_cl, qa_ltT, qa_ltF, qa_eqT, qa_eqF, qa_nN, qa_Nn, qa_ltN, qa_Nlt, qa_NN, qa_ltNN, qa_sub, qa_dec, qa_dec0, qa_sub0, qa_incN, qa_31, qa_shr, qa_shl, qa_and1, va_up_self, qa_une, pk_us, pk_un, qa_up2, qa_upd2, Option.bind_some, if_true, if_false, and_true, true_and, and_self, qa_f1, qa_f2, zM_longest_L20, a6, e]
      exact ih
    · rw [Nat.max_eq_left (by omega)] at ih
      simp (disch := omega) only [↓reduceIte, ↓qa_b, qa_b, qa_lit, qa_neg1, qa_qN, nI_add, pk_mul, qa_ix, qa_cl, qa_ltT, qa_ltF, qa_eqT, qa_eqF, qa_nN, qa_Nn, qa_ltN, qa_Nlt, qa_NN, qa_ltNN, qa_sub, qa_dec, qa_dec0, qa_sub0, qa_incN, qa_31, qa_shr, qa_shl, qa_and1, va_up_self, qa_une, pk_us, pk_un, qa_up2, qa_upd2, Option.bind_some, if_true, if_false, and_true, true_and, and_self, qa_f1, qa_f2, zM_longest_L20, a6, e]
      exact ih
theorem qh_longT (HA : qi_a L P pn fn tn bn (w.1 84)) (HS : qi_stg 0 P pn fn tn bn h (w.1 84)) {hd : Nat} (hh : hd < 6) : ∀ (k n t r : Nat), t + k = bn → k < n → (r = 0 ∧ t = 0 ∨ ∃ u, t = u + 1 ∧ r = qs_rn (w.1 84) fn hd u) → zH_longest_L24 n (nI hd) (nI (qs_mx (w.1 84) fn hd t)) (nI r) (nI t) h = some (nI (qs_mx (w.1 84) fn hd bn))
  | 0, n + 1, t, r, ht, _, _ => by
    have : t = bn := by omega
    subst this
    have e4 := (qi_stg0 HS).1.2.2.2.2.2.2.2
    obtain ⟨a0, a1, a4, a6, lpn, lfn, ltn, lbn⟩ := HA.1
    simp (disch := omega) only [↓reduceIte, ↓qa_b, qa_b, qa_lit, qa_neg1, qa_qN, nI_add, pk_mul, qa_ix, qa_cl, qa_ltT, qa_ltF, qa_eqT, qa_eqF, qa_nN, qa_Nn, qa_ltN, qa_Nlt, qa_NN, qa_ltNN, qa_sub, qa_dec, qa_dec0, qa_sub0, qa_incN, qa_31, qa_shr, qa_shl, qa_and1, va_up_self, qa_une, pk_us, pk_un, qa_up2, qa_upd2, Option.bind_some, if_true, if_false, and_true, true_and, and_self, qa_f1, qa_f2, zH_longest_L24, e4]
  | k + 1, n + 1, t, r, ht, hn, hr => by
    have e4 := (qi_stg0 HS).1.2.2.2.2.2.2.2
    obtain ⟨a0, a1, a4, a6, lpn, lfn, ltn, lbn⟩ := HA.1
    have eb := qh_busy HA HS (show t < bn by omega)
    have bl := qs_by_lt HA (show t < bn by omega) fn (Nat.le_refl fn)
    have ih := qh_longT HA HS hh k n (t + 1) (qs_rn (w.1 84) fn hd t) (by omega) (by omega) (Or.inr ⟨t, rfl, rfl⟩)
    have b1 := qs_mx_le (w.1 84) fn hd t
    have b2 := qs_rn_le (w.1 84) fn hd t
    rw [show qs_mx (w.1 84) fn hd (t + 1) = max (qs_mx (w.1 84) fn hd t) (qs_rn (w.1 84) fn hd t) from rfl] at ih
    have er : qs_rn (w.1 84) fn hd t = if (qs_by (w.1 84) t fn).testBit hd then r + 1 else 0 := by
      rcases hr with ⟨rfl, rfl⟩ | ⟨u, rfl, rfl⟩
      · rfl
      · rfl
    cases hb : (qs_by (w.1 84) t fn).testBit hd
    · rw [hb] at er
      simp only [Bool.false_eq_true, if_false] at er
      rw [er] at ih
      rw [Nat.max_eq_left (by omega)] at ih
      have q0 : zD_max (nI (qs_mx (w.1 84) fn hd t)) (nI 0) = nI (qs_mx (w.1 84) fn hd t) := by
        unfold zD_max
        simp (disch := omega) only [↓reduceIte, ↓qa_b, qa_b, qa_lit, qa_neg1, qa_qN, nI_add, pk_mul, qa_ix, qa_cl, qa_ltT, qa_ltF, qa_eqT, qa_eqF, qa_nN, qa_Nn, qa_ltN, qa_Nlt, qa_NN, qa_ltNN, qa_sub, qa_dec, qa_dec0, qa_sub0, qa_incN, qa_31, qa_shr, qa_shl, qa_and1, va_up_self, qa_une, pk_us, pk_un, qa_up2, qa_upd2, Option.bind_some, if_true, if_false, and_true, true_and, and_self, qa_f1, qa_f2]
      simp (disch := omega) only [↓reduceIte, ↓qa_b, zH_longest_L24, zH_longest_J59, e4, qa_ltT, eb, Option.bind_some, qa_lit, qa_31, qa_shr, qa_and1, qa_tb, hb, q0, nI_add]
      exact ih
    · rw [hb] at er
      simp only [if_true] at er
      rw [er] at ih
      have q0 : zD_max (nI (qs_mx (w.1 84) fn hd t)) (nI (r + 1)) = nI (max (qs_mx (w.1 84) fn hd t) (r + 1)) := by
        unfold zD_max
        by_cases hc : qs_mx (w.1 84) fn hd t < r + 1
        · rw [Nat.max_eq_right (by omega)]
          simp (disch := omega) only [↓reduceIte, ↓qa_b, qa_b, qa_lit, qa_neg1, qa_qN, nI_add, pk_mul, qa_ix, qa_cl, qa_ltT, qa_ltF, qa_eqT, qa_eqF, qa_nN, qa_Nn, qa_ltN, qa_Nlt, qa_NN, qa_ltNN, qa_sub, qa_dec, qa_dec0, qa_sub0, qa_incN, qa_31, qa_shr, qa_shl, qa_and1, va_up_self, qa_une, pk_us, pk_un, qa_up2, qa_upd2, Option.bind_some, if_true, if_false, and_true, true_and, and_self, qa_f1, qa_f2]
        · rw [Nat.max_eq_left (by omega)]
          simp (disch := omega) only [↓reduceIte, ↓qa_b, qa_b, qa_lit, qa_neg1, qa_qN, nI_add, pk_mul, qa_ix, qa_cl, qa_ltT, qa_ltF, qa_eqT, qa_eqF, qa_nN, qa_Nn, qa_ltN, qa_Nlt, qa_NN, qa_ltNN, qa_sub, qa_dec, qa_dec0, qa_sub0, qa_incN, qa_31, qa_shr, qa_shl, qa_and1, va_up_self, qa_une, pk_us, pk_un, qa_up2, qa_upd2, Option.bind_some, if_true, if_false, and_true, true_and, and_self, qa_f1, qa_f2]
      simp (disch := omega) only [↓reduceIte, ↓qa_b, zH_longest_L24, zH_longest_J59, e4, qa_ltT, eb, Option.bind_some, qa_lit, qa_31, qa_shr, qa_and1, qa_tb, hb, Bool.true_eq_false, q0, nI_add]
      exact ih
theorem qo_longest' (HA : qi_a L P pn fn tn bn (w.1 84)) (HS : qi_stg 0 P pn fn tn bn h (w.1 84)) (v1 : Int32) : ∃ r, zH_longest v1 h = some r ∧ zM_longest v1 w = some r := by
  obtain ⟨a0, a1, a4, a6, lpn, lfn, ltn, lbn⟩ := HA.1
  have s1 := (qi_stg0 HS).1.2.1
  have qi : zM_isIn v1 (nI 0) (nI (2 * pn) - nI 1) = (if v1 < nI 0 then nI 0 else if v1 < nI (2 * pn) then nI 1 else nI 0) := qa_in00 v1 (by omega)
  have eM : zM_longest v1 w = if zM_isIn v1 (nI 0) (nI (2 * pn) - nI 1) = nI 0 then some qN else zM_longest_L20 am_N v1 (nI 0) (nI 0) w := by
    unfold zM_longest zM_hands
    simp only [qa_b, a0, qa_lit, pk_mul, qa_neg1, qa_qN]
  rw [eM, qi]
  rcases qa_arg v1 (2 * pn) with hv | ⟨x, hx, hx', rfl⟩ | ⟨x, hx, hx', rfl⟩
  · refine ⟨qN, ?_, ?_⟩
    · simp (disch := omega) only [↓reduceIte, ↓qa_b, qa_b, qa_lit, qa_neg1, qa_qN, nI_add, pk_mul, qa_ix, qa_cl, qa_ltT, qa_ltF, qa_eqT, qa_eqF, qa_nN, qa_Nn, qa_ltN, qa_Nlt, qa_NN, qa_ltNN, qa_sub, qa_dec, qa_dec0, qa_sub0, qa_incN, qa_31, qa_shr, qa_shl, qa_and1, va_up_self, qa_une, pk_us, pk_un, qa_up2, qa_upd2, Option.bind_some, if_true, if_false, and_true, true_and, and_self, qa_f1, qa_f2, zH_longest, hv]
    · simp (disch := omega) only [↓reduceIte, ↓qa_b, qa_b, qa_lit, qa_neg1, qa_qN, nI_add, pk_mul, qa_ix, qa_cl, qa_ltT, qa_ltF, qa_eqT, qa_eqF, qa_nN, qa_Nn, qa_ltN, qa_Nlt, qa_NN, qa_ltNN, qa_sub, qa_dec, qa_dec0, qa_sub0, qa_incN, qa_31, qa_shr, qa_shl, qa_and1, va_up_self, qa_une, pk_us, pk_un, qa_up2, qa_upd2, Option.bind_some, if_true, if_false, and_true, true_and, and_self, qa_f1, qa_f2, hv]
  · refine ⟨qN, ?_, ?_⟩
    · simp (disch := omega) only [↓reduceIte, ↓qa_b, qa_b, qa_lit, qa_neg1, qa_qN, nI_add, pk_mul, qa_ix, qa_cl, qa_ltT, qa_ltF, qa_eqT, qa_eqF, qa_nN, qa_Nn, qa_ltN, qa_Nlt, qa_NN, qa_ltNN, qa_sub, qa_dec, qa_dec0, qa_sub0, qa_incN, qa_31, qa_shr, qa_shl, qa_and1, va_up_self, qa_une, pk_us, pk_un, qa_up2, qa_upd2, Option.bind_some, if_true, if_false, and_true, true_and, and_self, qa_f1, qa_f2, zH_longest, zG_hands, s1]
    · simp (disch := omega) only [↓reduceIte, ↓qa_b, qa_b, qa_lit, qa_neg1, qa_qN, nI_add, pk_mul, qa_ix, qa_cl, qa_ltT, qa_ltF, qa_eqT, qa_eqF, qa_nN, qa_Nn, qa_ltN, qa_Nlt, qa_NN, qa_ltNN, qa_sub, qa_dec, qa_dec0, qa_sub0, qa_incN, qa_31, qa_shr, qa_shl, qa_and1, va_up_self, qa_une, pk_us, pk_un, qa_up2, qa_upd2, Option.bind_some, if_true, if_false, and_true, true_and, and_self, qa_f1, qa_f2]
  · refine ⟨nI (qs_mx (w.1 84) fn x bn), ?_, ?_⟩
    · have e := qh_longT HA HS (hd := x) (by omega) bn am_N 0 0 (by omega) (Nat.lt_of_le_of_lt lbn (by decide)) (Or.inl ⟨rfl, rfl⟩)
      simp (disch := omega) only [↓reduceIte, ↓qa_b, qa_b, qa_lit, qa_neg1, qa_qN, nI_add, pk_mul, qa_ix, qa_cl, qa_ltT, qa_ltF, qa_eqT, qa_eqF, qa_nN, qa_Nn, qa_ltN, qa_Nlt, qa_NN, qa_ltNN, qa_sub, qa_dec, qa_dec0, qa_sub0, qa_incN, qa_31, qa_shr, qa_shl, qa_and1, va_up_self, qa_une, pk_us, pk_un, qa_up2, qa_upd2, Option.bind_some, if_true, if_false, and_true, true_and, and_self, qa_f1, qa_f2, zH_longest, zG_hands, s1]
      exact e
    · have e := qm_longT HA (hd := x) (by omega) bn am_N 0 (by omega) (Nat.lt_of_le_of_lt lbn (by decide))
      simp (disch := omega) only [↓reduceIte, ↓qa_b, qa_b, qa_lit, qa_neg1, qa_qN, nI_add, pk_mul, qa_ix, qa_cl, qa_ltT, qa_ltF, qa_eqT, qa_eqF, qa_nN, qa_Nn, qa_ltN, qa_Nlt, qa_NN, qa_ltNN, qa_sub, qa_dec, qa_dec0, qa_sub0, qa_incN, qa_31, qa_shr, qa_shl, qa_and1, va_up_self, qa_une, pk_us, pk_un, qa_up2, qa_upd2, Option.bind_some, if_true, if_false, and_true, true_and, and_self, qa_f1, qa_f2]
      exact e
end
