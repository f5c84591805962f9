/-! THE HEART: swaps, longest -/
def qs_on (a : Nat → Int32) (t f : Nat) : Bool := decide (a (50 + 6 * t + f) ≠ qN)
def qs_sw (a : Nat → Int32) (t f : Nat) : Bool := decide (0 < t) && (qs_on a t f && (qs_on a (t - 1) f && decide (a (200 + 6 * t + f) ≠ a (200 + 6 * (t - 1) + f))))
def qs_b (b : Bool) : Int32 := if b then nI 1 else nI 0
theorem qs_b0 (b : Bool) : (qs_b b = nI 0) = (b = false) := by cases b <;> simp [qs_b] <;> decide
theorem qm_placeOf {w : zHM} {t f : Nat} (ht : t < 24) (hf : f < 6) : zM_placeOf (nI t) (nI f) w = some (w.1 84 (50 + 6 * t + f)) := by
  simp (disch := omega) only [↓reduceIte, ↓qa_b, qa_b, qa_lit, qa_neg1, qa_qN, nI_add, pk_mul, qa_ix, qa_cl, qa_ltT, qa_ltF, qa_eqT, qa_eqF, qa_nN, qa_Nn, qa_ltN, qa_Nlt, qa_NN, qa_ltNN, qa_sub, qa_dec, qa_dec0, qa_sub0, qa_incN, qa_31, qa_shr, qa_shl, qa_and1, va_up_self, qa_une, pk_us, pk_un, qa_up2, qa_upd2, Option.bind_some, if_true, if_false, and_true, true_and, and_self, qa_f1, qa_f2, zM_placeOf]
theorem qm_heldBy {w : zHM} {t f : Nat} (ht : t < 24) (hf : f < 6) : zM_heldBy (nI t) (nI f) w = some (w.1 84 (200 + 6 * t + f)) := by
  simp (disch := omega) only [↓reduceIte, ↓qa_b, qa_b, qa_lit, qa_neg1, qa_qN, nI_add, pk_mul, qa_ix, qa_cl, qa_ltT, qa_ltF, qa_eqT, qa_eqF, qa_nN, qa_Nn, qa_ltN, qa_Nlt, qa_NN, qa_ltNN, qa_sub, qa_dec, qa_dec0, qa_sub0, qa_incN, qa_31, qa_shr, qa_shl, qa_and1, va_up_self, qa_une, pk_us, pk_un, qa_up2, qa_upd2, Option.bind_some, if_true, if_false, and_true, true_and, and_self, qa_f1, qa_f2, zM_heldBy]
theorem qm_kindOf {w : zHM} {f : Nat} (hf : f < 6) : zM_kindOf (nI f) w = some (w.1 84 (20 + 2 * f)) := by
  simp (disch := omega) only [↓reduceIte, ↓qa_b, qa_b, qa_lit, qa_neg1, qa_qN, nI_add, pk_mul, qa_ix, qa_cl, qa_ltT, qa_ltF, qa_eqT, qa_eqF, qa_nN, qa_Nn, qa_ltN, qa_Nlt, qa_NN, qa_ltNN, qa_sub, qa_dec, qa_dec0, qa_sub0, qa_incN, qa_31, qa_shr, qa_shl, qa_and1, va_up_self, qa_une, pk_us, pk_un, qa_up2, qa_upd2, Option.bind_some, if_true, if_false, and_true, true_and, and_self, qa_f1, qa_f2, zM_kindOf]
theorem qa_Nlt0 : (qN < nI 0) = True := eq_true (by decide)
section
variable {L P pn fn tn bn : Nat} {h : Nat → Nat → Int32} {w : zHM}
/-- a place: off, or a number -/
theorem qi_pl (HA : qi_a L P pn fn tn bn (w.1 84)) (hP : P ≤ 8) {t f : Nat} (ht : t < bn) (hf : f < fn) : (qs_on (w.1 84) t f = false ∧ w.1 84 (50 + 6 * t + f) = qN) ∨ (qs_on (w.1 84) t f = true ∧ ∃ x, x < P ∧ w.1 84 (50 + 6 * t + f) = nI x) := by
  rcases (HA.2.2.2.2.2.2 t f ht hf).1 with e | ⟨x, hx, e⟩
  · left
    unfold qs_on
    rw [e]
    exact ⟨by simp, rfl⟩
  · right
    unfold qs_on
    rw [e]
    exact ⟨decide_eq_true (fun q => by rw [qa_nN (by omega)] at q; exact q), x, hx, rfl⟩
theorem qm_isSwapped (HA : qi_a L P pn fn tn bn (w.1 84)) (hP : P ≤ 8) {t f : Nat} (ht : t < bn) (hf : f < fn) : zM_isSwapped (nI t) (nI f) w = some (qs_b (qs_sw (w.1 84) t f)) := by
  obtain ⟨-, -, -, -, lpn, lfn, ltn, lbn⟩ := HA.1
  rcases t with _ | u
  · simp (disch := omega) only [↓reduceIte, ↓qa_b, qa_b, qa_lit, qa_neg1, qa_qN, nI_add, pk_mul, qa_ix, qa_cl, qa_ltT, qa_ltF, qa_eqT, qa_eqF, qa_nN, qa_Nn, qa_ltN, qa_Nlt, qa_NN, qa_ltNN, qa_sub, qa_dec, qa_dec0, qa_sub0, qa_incN, qa_31, qa_shr, qa_shl, qa_and1, va_up_self, qa_une, pk_us, pk_un, qa_up2, qa_upd2, Option.bind_some, if_true, if_false, and_true, true_and, and_self, qa_f1, qa_f2, zM_isSwapped]
    rfl
  · have e1 := qm_placeOf (w := w) (t := u + 1) (f := f) (by omega) (by omega)
    have e2 := qm_placeOf (w := w) (t := u) (f := f) (by omega) (by omega)
    have e3 := qm_heldBy (w := w) (t := u + 1) (f := f) (by omega) (by omega)
    have e4 := qm_heldBy (w := w) (t := u) (f := f) (by omega) (by omega)
    have hsw : qs_sw (w.1 84) (u + 1) f = (qs_on (w.1 84) (u + 1) f && (qs_on (w.1 84) u f && decide (w.1 84 (200 + 6 * (u + 1) + f) ≠ w.1 84 (200 + 6 * u + f)))) := rfl
    rw [hsw]
    rcases qi_pl HA hP ht hf with ⟨o1, p1⟩ | ⟨o1, x, hx, p1⟩
    · rw [o1]
      simp (disch := omega) only [↓reduceIte, ↓qa_b, qa_b, qa_lit, qa_neg1, qa_qN, nI_add, pk_mul, qa_ix, qa_cl, qa_ltT, qa_ltF, qa_eqT, qa_eqF, qa_nN, qa_Nn, qa_ltN, qa_Nlt, qa_NN, qa_ltNN, qa_sub, qa_dec, qa_dec0, qa_sub0, qa_incN, qa_31, qa_shr, qa_shl, qa_and1, va_up_self, qa_une, pk_us, pk_un, qa_up2, qa_upd2, Option.bind_some, if_true, if_false, and_true, true_and, and_self, qa_f1, qa_f2, zM_isSwapped, e1, p1, qa_Nlt0]
      rfl
    · rcases qi_pl HA hP (t := u) (by omega) hf with ⟨o2, p2⟩ | ⟨o2, y, hy, p2⟩
      · rw [o1, o2]
        simp (disch := omega) only [↓reduceIte, ↓qa_b, qa_b, qa_lit, qa_neg1, qa_qN, nI_add, pk_mul, qa_ix, qa_cl, qa_ltT, qa_ltF, qa_eqT, qa_eqF, qa_nN, qa_Nn, qa_ltN, qa_Nlt, qa_NN, qa_ltNN, qa_sub, qa_dec, qa_dec0, qa_sub0, qa_incN, qa_31, qa_shr, qa_shl, qa_and1, va_up_self, qa_une, pk_us, pk_un, qa_up2, qa_upd2, Option.bind_some, if_true, if_false, and_true, true_and, and_self, qa_f1, qa_f2, zM_isSwapped, e1, e2, p1, p2, qa_Nlt0, Nat.add_sub_cancel]
        rfl
      · rw [o1, o2]
        by_cases hq : w.1 84 (200 + 6 * (u + 1) + f) = w.1 84 (200 + 6 * u + f)
        · have hd : decide (w.1 84 (200 + 6 * (u + 1) + f) ≠ w.1 84 (200 + 6 * u + f)) = false := decide_eq_false (fun c => c hq)
          rw [hd]
          simp (disch := omega) only [↓reduceIte, ↓qa_b, qa_b, qa_lit, qa_neg1, qa_qN, nI_add, pk_mul, qa_ix, qa_cl, qa_ltT, qa_ltF, qa_eqT, qa_eqF, qa_nN, qa_Nn, qa_ltN, qa_Nlt, qa_NN, qa_ltNN, qa_sub, qa_dec, qa_dec0, qa_sub0, qa_incN, qa_31, qa_shr, qa_shl, qa_and1, va_up_self, qa_une, pk_us, pk_un, qa_up2, qa_upd2, Option.bind_some, if_true, if_false, and_true, true_and, and_self, qa_f1, qa_f2, zM_isSwapped, e1, e2, e3, e4, p1, p2, Nat.add_sub_cancel, hq]
          rfl
        · have hd : decide (w.1 84 (200 + 6 * (u + 1) + f) ≠ w.1 84 (200 + 6 * u + f)) = true := decide_eq_true hq
          rw [hd]
          simp (disch := omega) only [↓reduceIte, ↓qa_b, qa_b, qa_lit, qa_neg1, qa_qN, nI_add, pk_mul, qa_ix, qa_cl, qa_ltT, qa_ltF, qa_eqT, qa_eqF, qa_nN, qa_Nn, qa_ltN, qa_Nlt, qa_NN, qa_ltNN, qa_sub, qa_dec, qa_dec0, qa_sub0, qa_incN, qa_31, qa_shr, qa_shl, qa_and1, va_up_self, qa_une, pk_us, pk_un, qa_up2, qa_upd2, Option.bind_some, if_true, if_false, and_true, true_and, and_self, qa_f1, qa_f2, zM_isSwapped, e1, e2, e3, e4, p1, p2, Nat.add_sub_cancel, hq]
          rfl
theorem qh_isOn (HA : qi_a L P pn fn tn bn (w.1 84)) (HS : qi_stg 0 P pn fn tn bn h (w.1 84)) {t f : Nat} (ht : t < bn) (hf : f < fn) : zG_isOn (nI t) (nI f) h = some (qs_b (qs_on (w.1 84) t f)) := by
  obtain ⟨-, -, -, -, lpn, lfn, ltn, lbn⟩ := HA.1
  have e := ((qi_stg0 HS).2.2.2.2.1 t f ht hf).1
  unfold qs_on
  by_cases hq : w.1 84 (50 + 6 * t + f) = qN
  · simp (disch := omega) only [↓reduceIte, ↓qa_b, qa_b, qa_lit, qa_neg1, qa_qN, nI_add, pk_mul, qa_ix, qa_cl, qa_ltT, qa_ltF, qa_eqT, qa_eqF, qa_nN, qa_Nn, qa_ltN, qa_Nlt, qa_NN, qa_ltNN, qa_sub, qa_dec, qa_dec0, qa_sub0, qa_incN, qa_31, qa_shr, qa_shl, qa_and1, va_up_self, qa_une, pk_us, pk_un, qa_up2, qa_upd2, Option.bind_some, if_true, if_false, and_true, true_and, and_self, qa_f1, qa_f2, zG_isOn, e, hq]
    simp [qs_b]
  · have hd : decide (w.1 84 (50 + 6 * t + f) ≠ qN) = true := decide_eq_true hq
    rw [hd]
    simp (disch := omega) only [↓reduceIte, ↓qa_b, qa_b, qa_lit, qa_neg1, qa_qN, nI_add, pk_mul, qa_ix, qa_cl, qa_ltT, qa_ltF, qa_eqT, qa_eqF, qa_nN, qa_Nn, qa_ltN, qa_Nlt, qa_NN, qa_ltNN, qa_sub, qa_dec, qa_dec0, qa_sub0, qa_incN, qa_31, qa_shr, qa_shl, qa_and1, va_up_self, qa_une, pk_us, pk_un, qa_up2, qa_upd2, Option.bind_some, if_true, if_false, and_true, true_and, and_self, qa_f1, qa_f2, zG_isOn, e, hq]
    rfl
theorem qh_staysOn (HA : qi_a L P pn fn tn bn (w.1 84)) (HS : qi_stg 0 P pn fn tn bn h (w.1 84)) {t f : Nat} (ht : t < bn) (hf : f < fn) : zG_staysOn (nI t) (nI f) h = some (qs_b (decide (0 < t) && (qs_on (w.1 84) t f && qs_on (w.1 84) (t - 1) f))) := by
  obtain ⟨-, -, -, -, lpn, lfn, ltn, lbn⟩ := HA.1
  rcases t with _ | u
  · simp (disch := omega) only [↓reduceIte, ↓qa_b, qa_b, qa_lit, qa_neg1, qa_qN, nI_add, pk_mul, qa_ix, qa_cl, qa_ltT, qa_ltF, qa_eqT, qa_eqF, qa_nN, qa_Nn, qa_ltN, qa_Nlt, qa_NN, qa_ltNN, qa_sub, qa_dec, qa_dec0, qa_sub0, qa_incN, qa_31, qa_shr, qa_shl, qa_and1, va_up_self, qa_une, pk_us, pk_un, qa_up2, qa_upd2, Option.bind_some, if_true, if_false, and_true, true_and, and_self, qa_f1, qa_f2, zG_staysOn]
    rfl
  · have e1 := qh_isOn HA HS ht hf
    have e2 := qh_isOn HA HS (t := u) (by omega) hf
    simp (disch := omega) only [↓reduceIte, ↓qa_b, qa_b, qa_lit, qa_neg1, qa_qN, nI_add, pk_mul, qa_ix, qa_cl, qa_ltT, qa_ltF, qa_eqT, qa_eqF, qa_nN, qa_Nn, qa_ltN, qa_Nlt, qa_NN, qa_ltNN, qa_sub, qa_dec, qa_dec0, qa_sub0, qa_incN, qa_31, qa_shr, qa_shl, qa_and1, va_up_self, qa_une, pk_us, pk_un, qa_up2, qa_upd2, Option.bind_some, if_true, if_false, and_true, true_and, and_self, qa_f1, qa_f2, zG_staysOn, e1, e2, Nat.add_sub_cancel, qs_b0]
    cases qs_on (w.1 84) (u + 1) f
    · simp [qs_b]
    · cases qs_on (w.1 84) u f
      · simp [qs_b]
      · simp [qs_b]
theorem qh_isSwapped (HA : qi_a L P pn fn tn bn (w.1 84)) (HS : qi_stg 0 P pn fn tn bn h (w.1 84)) {t f : Nat} (ht : t < bn) (hf : f < fn) : zG_isSwapped (nI t) (nI f) h = some (qs_b (qs_sw (w.1 84) t f)) := by
  obtain ⟨-, -, -, -, lpn, lfn, ltn, lbn⟩ := HA.1
  have e0 := qh_staysOn HA HS ht hf
  rcases t with _ | u
  · simp (disch := omega) only [↓reduceIte, ↓qa_b, qa_b, qa_lit, qa_neg1, qa_qN, nI_add, pk_mul, qa_ix, qa_cl, qa_ltT, qa_ltF, qa_eqT, qa_eqF, qa_nN, qa_Nn, qa_ltN, qa_Nlt, qa_NN, qa_ltNN, qa_sub, qa_dec, qa_dec0, qa_sub0, qa_incN, qa_31, qa_shr, qa_shl, qa_and1, va_up_self, qa_une, pk_us, pk_un, qa_up2, qa_upd2, Option.bind_some, if_true, if_false, and_true, true_and, and_self, qa_f1, qa_f2, zG_isSwapped, e0, qs_b0]
    rfl
  · have e1 := ((qi_stg0 HS).2.2.2.2.1 (u + 1) f ht hf).2
    have e2 := ((qi_stg0 HS).2.2.2.2.1 u f (by omega) hf).2
    have ei : (u + 1) * 6 + f - 6 = u * 6 + f := by omega
    have hsw : qs_sw (w.1 84) (u + 1) f = (qs_on (w.1 84) (u + 1) f && (qs_on (w.1 84) u f && decide (w.1 84 (200 + 6 * (u + 1) + f) ≠ w.1 84 (200 + 6 * u + f)))) := rfl
    rw [hsw]
    have hst : (decide (0 < u + 1) && (qs_on (w.1 84) (u + 1) f && qs_on (w.1 84) (u + 1 - 1) f)) = (qs_on (w.1 84) (u + 1) f && qs_on (w.1 84) u f) := by simp
    rw [hst] at e0
    simp (disch := omega) only [↓reduceIte, ↓qa_b, qa_b, qa_lit, qa_neg1, qa_qN, nI_add, pk_mul, qa_ix, qa_cl, qa_ltT, qa_ltF, qa_eqT, qa_eqF, qa_nN, qa_Nn, qa_ltN, qa_Nlt, qa_NN, qa_ltNN, qa_sub, qa_dec, qa_dec0, qa_sub0, qa_incN, qa_31, qa_shr, qa_shl, qa_and1, va_up_self, qa_une, pk_us, pk_un, qa_up2, qa_upd2, Option.bind_some, if_true, if_false, and_true, true_and, and_self, qa_f1, qa_f2, zG_isSwapped, e0, qs_b0, ei, e1, e2]
    cases qs_on (w.1 84) (u + 1) f
    · simp [qs_b]
    · cases qs_on (w.1 84) u f
      · simp [qs_b]
      · by_cases hq : w.1 84 (200 + 6 * (u + 1) + f) = w.1 84 (200 + 6 * u + f)
        · simp [qs_b, hq]
        · simp [qs_b, hq]
/-- how many are swapped in a beat, in figures from f on; in beats from t on -/
def qs_row (a : Nat → Int32) (t : Nat) : Nat → Nat → Nat
  | _, 0 => 0
  | f, k + 1 => (if qs_sw a t f then 1 else 0) + qs_row a t (f + 1) k
def qs_tot (a : Nat → Int32) (fn : Nat) : Nat → Nat → Nat
  | _, 0 => 0
  | t, k + 1 => qs_row a t 0 fn + qs_tot a fn (t + 1) k
theorem qh_swapsR (HA : qi_a L P pn fn tn bn (w.1 84)) (HS : qi_stg 0 P pn fn tn bn h (w.1 84)) {t : Nat} (ht : t < bn) (K : Int32 → Int32 → (Nat → Nat → Int32) → Option Int32) : ∀ (k n f c : Nat), f + k = fn → k < n → zH_swaps_L17 K n (nI c) (nI t) (nI f) h = K (nI (c + qs_row (w.1 84) t f k)) (nI (t + 1)) h
  | 0, n + 1, f, c, hf, _ => by
    have e4 := (qi_stg0 HS).1.2.2.1
    obtain ⟨-, -, -, -, lpn, lfn, ltn, lbn⟩ := HA.1
    simp (disch := omega) only [↓reduceIte, ↓qa_b, qa_b, qa_lit, qa_neg1, qa_qN, nI_add, pk_mul, qa_ix, qa_cl, qa_ltT, qa_ltF, qa_eqT, qa_eqF, qa_nN, qa_Nn, qa_ltN, qa_Nlt, qa_NN, qa_ltNN, qa_sub, qa_dec, qa_dec0, qa_sub0, qa_incN, qa_31, qa_shr, qa_shl, qa_and1, va_up_self, qa_une, pk_us, pk_un, qa_up2, qa_upd2, Option.bind_some, if_true, if_false, and_true, true_and, and_self, qa_f1, qa_f2, zH_swaps_L17, e4, qs_row, Nat.add_zero]
  | k + 1, n + 1, f, c, hf, hn => by
    have e4 := (qi_stg0 HS).1.2.2.1
    obtain ⟨-, -, -, -, lpn, lfn, ltn, lbn⟩ := HA.1
    have e := qh_isSwapped HA HS ht (show f < fn by omega)
    unfold qs_row
    cases hs : qs_sw (w.1 84) t f
    · rw [hs] at e
      have ih := qh_swapsR HA HS ht K k n (f + 1) c (by omega) (by omega)
      simp (disch := omega) only [↓reduceIte, ↓qa_b, qa_b, qa_lit, qa_neg1, qa_qN, nI_add, pk_mul, qa_ix, qa_cl, qa_ltT, qa_ltF, qa_eqT, qa_eqF, qa_nN, qa_Nn, qa_ltN, qa_Nlt, qa_NN, qa_ltNN, qa_sub, qa_dec, qa_dec0, qa_sub0, qa_incN, qa_31, qa_shr, qa_shl, qa_and1, va_up_self, qa_une, pk_us, pk_un, qa_up2, qa_upd2, Option.bind_some, if_true, if_false, and_true, true_and, and_self, qa_f1, qa_f2, zH_swaps_L17, e4, e, qs_b, Bool.false_eq_true, Nat.zero_add]
      exact ih
    · rw [hs] at e
      have ih := qh_swapsR HA HS ht K k n (f + 1) (c + 1) (by omega) (by omega)
      simp (disch := omega) only [↓reduceIte, ↓qa_b, qa_b, qa_lit, qa_neg1, qa_qN, nI_add, pk_mul, qa_ix, qa_cl, qa_ltT, qa_ltF, qa_eqT, qa_eqF, qa_nN, qa_Nn, qa_ltN, qa_Nlt, qa_NN, qa_ltNN, qa_sub, qa_dec, qa_dec0, qa_sub0, qa_incN, qa_31, qa_shr, qa_shl, qa_and1, va_up_self, qa_une, pk_us, pk_un, qa_up2, qa_upd2, Option.bind_some, if_true, if_false, and_true, true_and, and_self, qa_f1, qa_f2, zH_swaps_L17, e4, e, qs_b]
      rw [← Nat.add_assoc]
      exact ih
theorem qm_swapsR (HA : qi_a L P pn fn tn bn (w.1 84)) (hP : P ≤ 8) {t : Nat} (ht : t < bn) (K : Int32 → Int32 → zHM → Option Int32) : ∀ (k n f c : Nat), f + k = fn → k < n → zM_swaps_L17 K n (nI c) (nI t) (nI f) w = K (nI (c + qs_row (w.1 84) t f k)) (nI (t + 1)) w
  | 0, n + 1, f, c, hf, _ => by
    obtain ⟨a0, a1, -, -, lpn, lfn, ltn, lbn⟩ := HA.1
    simp (disch := omega) only [↓reduceIte, ↓qa_b, qa_b, qa_lit, qa_neg1, qa_qN, nI_add, pk_mul, qa_ix, qa_cl, qa_ltT, qa_ltF, qa_eqT, qa_eqF, qa_nN, qa_Nn, qa_ltN, qa_Nlt, qa_NN, qa_ltNN, qa_sub, qa_dec, qa_dec0, qa_sub0, qa_incN, qa_31, qa_shr, qa_shl, qa_and1, va_up_self, qa_une, pk_us, pk_un, qa_up2, qa_upd2, Option.bind_some, if_true, if_false, and_true, true_and, and_self, qa_f1, qa_f2, zM_swaps_L17, a1, qs_row, Nat.add_zero]
  | k + 1, n + 1, f, c, hf, hn => by
    obtain ⟨a0, a1, -, -, lpn, lfn, ltn, lbn⟩ := HA.1
    have e := qm_isSwapped HA hP ht (show f < fn by omega)
    unfold qs_row
    cases hs : qs_sw (w.1 84) t f
    · rw [hs] at e
      have ih := qm_swapsR HA hP ht K k n (f + 1) c (by omega) (by omega)
      simp (disch := omega) only [↓reduceIte, ↓qa_b, qa_b, qa_lit, qa_neg1, qa_qN, nI_add, pk_mul, qa_ix, qa_cl, qa_ltT, qa_ltF, qa_eqT, qa_eqF, qa_nN, qa_Nn, qa_ltN, qa_Nlt, qa_NN, qa_ltNN, qa_sub, qa_dec, qa_dec0, qa_sub0, qa_incN, qa_31, qa_shr, qa_shl, qa_and1, va_up_self, qa_une, pk_us, pk_un, qa_up2, qa_upd2, Option.bind_some, if_true, if_false, and_true, true_and, and_self, qa_f1, qa_f2, zM_swaps_L17, a1, e, qs_b, Bool.false_eq_true, Nat.zero_add, Nat.add_zero]
      exact ih
    · rw [hs] at e
      have ih := qm_swapsR HA hP ht K k n (f + 1) (c + 1) (by omega) (by omega)
      simp (disch := omega) only [↓reduceIte, ↓qa_b, qa_b, qa_lit, qa_neg1, qa_qN, nI_add, pk_mul, qa_ix, qa_cl, qa_ltT, qa_ltF, qa_eqT, qa_eqF, qa_nN, qa_Nn, qa_ltN, qa_Nlt, qa_NN, qa_ltNN, qa_sub, qa_dec, qa_dec0, qa_sub0, qa_incN, qa_31, qa_shr, qa_shl, qa_and1, va_up_self, qa_une, pk_us, pk_un, qa_up2, qa_upd2, Option.bind_some, if_true, if_false, and_true, true_and, and_self, qa_f1, qa_f2, zM_swaps_L17, a1, e, qs_b]
      rw [← Nat.add_assoc]
      exact ih
theorem qh_swapsT (HA : qi_a L P pn fn tn bn (w.1 84)) (HS : qi_stg 0 P pn fn tn bn h (w.1 84)) : ∀ (k n t c : Nat), t + k = bn → k < n → zH_swaps_L4 n (nI c) (nI t) h = some (nI (c + qs_tot (w.1 84) fn t k))
  | 0, n + 1, t, c, ht, _ => by
    have e4 := (qi_stg0 HS).1.2.2.2.2.2.2.2
    obtain ⟨-, -, -, -, lpn, lfn, ltn, lbn⟩ := HA.1
    simp (disch := omega) only [↓reduceIte, ↓qa_b, qa_b, qa_lit, qa_neg1, qa_qN, nI_add, pk_mul, qa_ix, qa_cl, qa_ltT, qa_ltF, qa_eqT, qa_eqF, qa_nN, qa_Nn, qa_ltN, qa_Nlt, qa_NN, qa_ltNN, qa_sub, qa_dec, qa_dec0, qa_sub0, qa_incN, qa_31, qa_shr, qa_shl, qa_and1, va_up_self, qa_une, pk_us, pk_un, qa_up2, qa_upd2, Option.bind_some, if_true, if_false, and_true, true_and, and_self, qa_f1, qa_f2, zH_swaps_L4, e4, qs_tot, Nat.add_zero]
  | k + 1, n + 1, t, c, ht, hn => by
    have e4 := (qi_stg0 HS).1.2.2.2.2.2.2.2
    obtain ⟨-, -, -, -, lpn, lfn, ltn, lbn⟩ := HA.1
    have e := qh_swapsR HA HS (show t < bn by omega) (fun v1 v2 h => zH_swaps_L4 n v1 v2 h) fn am_N 0 c (by omega) (Nat.lt_of_le_of_lt lfn (by decide))
    have ih := qh_swapsT HA HS k n (t + 1) (c + qs_row (w.1 84) t 0 fn) (by omega) (by omega)
    unfold qs_tot
    rw [← Nat.add_assoc]
    simp (disch := omega) only [↓reduceIte, ↓qa_b, qa_b, qa_lit, qa_neg1, qa_qN, nI_add, pk_mul, qa_ix, qa_cl, qa_ltT, qa_ltF, qa_eqT, qa_eqF, qa_nN, qa_Nn, qa_ltN, qa_Nlt, qa_NN, qa_ltNN, qa_sub, qa_dec, qa_dec0, qa_sub0, qa_incN, qa_31, qa_shr, qa_shl, qa_and1, va_up_self, qa_une, pk_us, pk_un, qa_up2, qa_upd2, Option.bind_some, if_true, if_false, and_true, true_and, and_self, qa_f1, qa_f2, zH_swaps_L4, e4]
    exact e.trans ih
theorem qm_swapsT (HA : qi_a L P pn fn tn bn (w.1 84)) (hP : P ≤ 8) : ∀ (k n t c : Nat), t + k = bn → k < n → zM_swaps_L4 n (nI c) (nI t) w = some (nI (c + qs_tot (w.1 84) fn t k))
  | 0, n + 1, t, c, ht, _ => by
    obtain ⟨a0, a1, a4, a6, lpn, lfn, ltn, lbn⟩ := HA.1
    simp (disch := omega) only [↓reduceIte, ↓qa_b, qa_b, qa_lit, qa_neg1, qa_qN, nI_add, pk_mul, qa_ix, qa_cl, qa_ltT, qa_ltF, qa_eqT, qa_eqF, qa_nN, qa_Nn, qa_ltN, qa_Nlt, qa_NN, qa_ltNN, qa_sub, qa_dec, qa_dec0, qa_sub0, qa_incN, qa_31, qa_shr, qa_shl, qa_and1, va_up_self, qa_une, pk_us, pk_un, qa_up2, qa_upd2, Option.bind_some, if_true, if_false, and_true, true_and, and_self, qa_f1, qa_f2, zM_swaps_L4, a6, qs_tot, Nat.add_zero]
  | k + 1, n + 1, t, c, ht, hn => by
    obtain ⟨a0, a1, a4, a6, lpn, lfn, ltn, lbn⟩ := HA.1
    have e := qm_swapsR HA hP (show t < bn by omega) (fun v1 v2 w => zM_swaps_L4 n v1 v2 w) fn am_N 0 c (by omega) (Nat.lt_of_le_of_lt lfn (by decide))
    have ih := qm_swapsT HA hP k n (t + 1) (c + qs_row (w.1 84) t 0 fn) (by omega) (by omega)
    unfold qs_tot
    rw [← Nat.add_assoc]
    simp (disch := omega) only [↓reduceIte, ↓qa_b, qa_b, qa_lit, qa_neg1, qa_qN, nI_add, pk_mul, qa_ix, qa_cl, qa_ltT, qa_ltF, qa_eqT, qa_eqF, qa_nN, qa_Nn, qa_ltN, qa_Nlt, qa_NN, qa_ltNN, qa_sub, qa_dec, qa_dec0, qa_sub0, qa_incN, qa_31, qa_shr, qa_shl, qa_and1, va_up_self, qa_une, pk_us, pk_un, qa_up2, qa_upd2, Option.bind_some, if_true, if_false, and_true, true_and, and_self, qa_f1, qa_f2, zM_swaps_L4, a6]
    exact e.trans ih
theorem qs_row0 (a : Nat → Int32) : ∀ k f, qs_row a 0 f k = 0
  | 0, _ => rfl
  | k + 1, f => by
    unfold qs_row
    rw [qs_row0 a k (f + 1)]
    rfl
theorem qo_swaps' (HA : qi_a L P pn fn tn bn (w.1 84)) (HS : qi_stg 0 P pn fn tn bn h (w.1 84)) (hP : P ≤ 8) : ∃ r, zH_swaps h = some r ∧ zM_swaps w = some r := by
  obtain ⟨a0, a1, a4, a6, lpn, lfn, ltn, lbn⟩ := HA.1
  rcases Nat.eq_zero_or_pos bn with hb | hb
  · subst hb
    have e4 := (qi_stg0 HS).1.2.2.2.2.2.2.2
    refine ⟨nI 0, ?_, ?_⟩
    · have e : am_N = 999999 + 1 := by decide
      unfold zH_swaps
      rw [e]
      simp (disch := omega) only [↓reduceIte, ↓qa_b, qa_b, qa_lit, qa_neg1, qa_qN, nI_add, pk_mul, qa_ix, qa_cl, qa_ltT, qa_ltF, qa_eqT, qa_eqF, qa_nN, qa_Nn, qa_ltN, qa_Nlt, qa_NN, qa_ltNN, qa_sub, qa_dec, qa_dec0, qa_sub0, qa_incN, qa_31, qa_shr, qa_shl, qa_and1, va_up_self, qa_une, pk_us, pk_un, qa_up2, qa_upd2, Option.bind_some, if_true, if_false, and_true, true_and, and_self, qa_f1, qa_f2, zH_swaps_L4, e4]
    · exact qm_swapsT HA hP 0 am_N 0 0 (by omega) (by decide)
  · refine ⟨nI (0 + qs_tot (w.1 84) fn 1 (bn - 1)), qh_swapsT HA HS (bn - 1) am_N 1 0 (by omega) (Nat.lt_of_le_of_lt (show bn - 1 ≤ 24 by omega) (by decide)), ?_⟩
    have e := qm_swapsT HA hP bn am_N 0 0 (by omega) (Nat.lt_of_le_of_lt lbn (by decide))
    obtain ⟨u, rfl⟩ : ∃ u, bn = u + 1 := ⟨bn - 1, by omega⟩
    unfold qs_tot at e
    rw [qs_row0, Nat.zero_add] at e
    exact e
end
