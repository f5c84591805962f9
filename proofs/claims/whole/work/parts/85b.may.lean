/-! THE HEART: the reference's questions about holds -/
/-- the lowest of some hands -/
def qs_lo (x : Nat) : Nat := if x.testBit 0 then 0 else if x.testBit 1 then 1 else if x.testBit 2 then 2 else if x.testBit 3 then 3 else if x.testBit 4 then 4 else 5
theorem qs_lo_lt (x : Nat) : qs_lo x < 6 := by
  unfold qs_lo
  repeat' split
  all_goals omega
theorem qm_lowest' {x : Nat} (hx : x < 64) (h0 : 0 < x) : zM_lowest (nI x) = some (nI (qs_lo x)) := by
  obtain ⟨p, hp, e, h1, h2⟩ := qm_lowest hx h0
  have key : ∀ x, x < 64 → ∀ p, p < 6 → x.testBit p = true → (∀ j, j < p → x.testBit j = false) → p = qs_lo x := by decide +kernel
  rw [e, ← key x hx p hp h1 h2]
section
variable {L P pn fn tn bn : Nat} {w : zHM}
theorem qi_kd (HA : qi_a L P pn fn tn bn (w.1 84)) {f : Nat} (hf : f < fn) : w.1 84 (20 + 2 * f) = nI (qs_kd (w.1 84) f) ∧ qs_kd (w.1 84) f ≤ 2 := qv_ofle (by omega) (HA.2.2.2.2.2.1 f hf).1
theorem qi_plc (HA : qi_a L P pn fn tn bn (w.1 84)) (hP : P ≤ 8) {t f : Nat} (ht : t < bn) (hf : f < fn) (ho : qs_on (w.1 84) t f = true) : w.1 84 (50 + 6 * t + f) = nI (qs_pl (w.1 84) t f) ∧ qs_pl (w.1 84) t f < P ∧ qs_pl (w.1 84) t f < 8 := by
  rcases qi_pl HA hP ht hf with ⟨o, -⟩ | ⟨-, x, hx, e⟩
  · rw [ho] at o; cases o
  · have q := qv_of (P := P) (by omega) ⟨x, hx, e⟩
    exact ⟨q.1, q.2, Nat.lt_of_lt_of_le q.2 hP⟩
theorem qm_may (HA : qi_a L P pn fn tn bn (w.1 84)) (hP : P ≤ 8) (hask : qk_askM w) {t f x : Nat} (ht : t < bn) (hf : f < fn) (ho : qs_on (w.1 84) t f = true) (hx : x < 64) (h0 : 0 < x) : ∃ w', zM_may (nI t) (nI f) (nI x) w = some (qs_b (qs_law (w.1 84) (w.1 86) 0 t f (qs_lo x / 2) (if qs_bn x = 1 then qs_lo x % 2 else 0)), w') ∧ qf_s w w' := by
  obtain ⟨a0, a1, a4, a6, lpn, lfn, ltn, lbn⟩ := HA.1
  obtain ⟨k1, k2⟩ := qi_kd HA hf
  obtain ⟨p1, p2, p3⟩ := qi_plc HA hP ht hf ho
  have en := qm_name (w := w) (t := t) (f := f) (by omega) (by omega)
  have el := qm_lowest' hx h0
  have eb := qm_bits hx
  have ll := qs_lo_lt x
  have d1 : nI (qs_lo x) / nI 2 = nI (qs_lo x / 2) := pk_div (by omega) (by omega) (by omega)
  have d2 : qs_lo x - qs_lo x / 2 * 2 = qs_lo x % 2 := by omega
  have key : ∀ y, y < 6 → ∃ w', zM_may_J41 (nI 5) (nI y) (va_up w.1 89 (upd (upd (upd (upd (upd (w.1 89) 0 (nI f)) 1 (w.1 84 (20 + 2 * f))) 2 (w.1 84 (50 + 6 * t + f))) 3 (nI t)) 4 (nI (qs_lo x / 2))), w.2) = some (qs_b (qs_law (w.1 84) (w.1 86) 0 t f (qs_lo x / 2) y), w') ∧ qf_s w w' := fun y hy => by
    obtain ⟨w', e1, e2⟩ := hask 0 (va_up w.1 89 (upd (upd (upd (upd (upd (upd (w.1 89) 0 (nI f)) 1 (w.1 84 (20 + 2 * f))) 2 (w.1 84 (50 + 6 * t + f))) 3 (nI t)) 4 (nI (qs_lo x / 2))) 5 (nI y)), w.2) (qn_c f (qs_kd (w.1 84) f) (qs_pl (w.1 84) t f) t (qs_lo x / 2 : Nat) y) (by omega) (by simp (disch := omega) only [↓reduceIte, ↓qa_b, qa_b, qa_lit, qa_neg1, qa_qN, nI_add, pk_mul, qa_ix, qa_cl, qa_ltT, qa_ltF, qa_eqT, qa_eqF, qa_nN, qa_Nn, qa_ltN, qa_Nlt, qa_NN, qa_ltNN, qa_sub, qa_dec, qa_dec0, qa_sub0, qa_incN, qa_31, qa_shr, qa_shl, qa_and1, va_up_self, qa_une, pk_us, pk_un, qa_up2, qa_upd2, Option.bind_some, if_true, if_false, and_true, true_and, and_self, qa_f1, qa_f2]) (by simp (disch := omega) only [↓reduceIte, ↓qa_b, qa_b, qa_lit, qa_neg1, qa_qN, nI_add, pk_mul, qa_ix, qa_cl, qa_ltT, qa_ltF, qa_eqT, qa_eqF, qa_nN, qa_Nn, qa_ltN, qa_Nlt, qa_NN, qa_ltNN, qa_sub, qa_dec, qa_dec0, qa_sub0, qa_incN, qa_31, qa_shr, qa_shl, qa_and1, va_up_self, qa_une, pk_us, pk_un, qa_up2, qa_upd2, Option.bind_some, if_true, if_false, and_true, true_and, and_self, qa_f1, qa_f2]) (fun v hv => by
      rcases (show v = 0 ∨ v = 1 ∨ v = 2 ∨ v = 3 ∨ v = 4 ∨ v = 5 by omega) with rfl | rfl | rfl | rfl | rfl | rfl
      · simp (disch := omega) only [↓reduceIte, ↓qa_b, qa_b, qa_lit, qa_neg1, qa_qN, nI_add, pk_mul, qa_ix, qa_cl, qa_ltT, qa_ltF, qa_eqT, qa_eqF, qa_nN, qa_Nn, qa_ltN, qa_Nlt, qa_NN, qa_ltNN, qa_sub, qa_dec, qa_dec0, qa_sub0, qa_incN, qa_31, qa_shr, qa_shl, qa_and1, va_up_self, qa_une, pk_us, pk_un, qa_up2, qa_upd2, Option.bind_some, if_true, if_false, and_true, true_and, and_self, qa_f1, qa_f2]
        exact ⟨nI_toInt (by omega), qn_sm (by show 0 ≤ (f : Int) ∧ (f : Int) ≤ 100; omega)⟩
      · simp (disch := omega) only [↓reduceIte, ↓qa_b, qa_b, qa_lit, qa_neg1, qa_qN, nI_add, pk_mul, qa_ix, qa_cl, qa_ltT, qa_ltF, qa_eqT, qa_eqF, qa_nN, qa_Nn, qa_ltN, qa_Nlt, qa_NN, qa_ltNN, qa_sub, qa_dec, qa_dec0, qa_sub0, qa_incN, qa_31, qa_shr, qa_shl, qa_and1, va_up_self, qa_une, pk_us, pk_un, qa_up2, qa_upd2, Option.bind_some, if_true, if_false, and_true, true_and, and_self, qa_f1, qa_f2, k1]
        exact ⟨nI_toInt (by omega), qn_sm (by show 0 ≤ (qs_kd (w.1 84) f : Int) ∧ (qs_kd (w.1 84) f : Int) ≤ 100; omega)⟩
      · simp (disch := omega) only [↓reduceIte, ↓qa_b, qa_b, qa_lit, qa_neg1, qa_qN, nI_add, pk_mul, qa_ix, qa_cl, qa_ltT, qa_ltF, qa_eqT, qa_eqF, qa_nN, qa_Nn, qa_ltN, qa_Nlt, qa_NN, qa_ltNN, qa_sub, qa_dec, qa_dec0, qa_sub0, qa_incN, qa_31, qa_shr, qa_shl, qa_and1, va_up_self, qa_une, pk_us, pk_un, qa_up2, qa_upd2, Option.bind_some, if_true, if_false, and_true, true_and, and_self, qa_f1, qa_f2, p1]
        exact ⟨nI_toInt (by omega), qn_sm (by show 0 ≤ (qs_pl (w.1 84) t f : Int) ∧ (qs_pl (w.1 84) t f : Int) ≤ 100; omega)⟩
      · simp (disch := omega) only [↓reduceIte, ↓qa_b, qa_b, qa_lit, qa_neg1, qa_qN, nI_add, pk_mul, qa_ix, qa_cl, qa_ltT, qa_ltF, qa_eqT, qa_eqF, qa_nN, qa_Nn, qa_ltN, qa_Nlt, qa_NN, qa_ltNN, qa_sub, qa_dec, qa_dec0, qa_sub0, qa_incN, qa_31, qa_shr, qa_shl, qa_and1, va_up_self, qa_une, pk_us, pk_un, qa_up2, qa_upd2, Option.bind_some, if_true, if_false, and_true, true_and, and_self, qa_f1, qa_f2]
        exact ⟨nI_toInt (by omega), qn_sm (by show 0 ≤ (t : Int) ∧ (t : Int) ≤ 100; omega)⟩
      · simp (disch := omega) only [↓reduceIte, ↓qa_b, qa_b, qa_lit, qa_neg1, qa_qN, nI_add, pk_mul, qa_ix, qa_cl, qa_ltT, qa_ltF, qa_eqT, qa_eqF, qa_nN, qa_Nn, qa_ltN, qa_Nlt, qa_NN, qa_ltNN, qa_sub, qa_dec, qa_dec0, qa_sub0, qa_incN, qa_31, qa_shr, qa_shl, qa_and1, va_up_self, qa_une, pk_us, pk_un, qa_up2, qa_upd2, Option.bind_some, if_true, if_false, and_true, true_and, and_self, qa_f1, qa_f2]
        exact ⟨nI_toInt (by omega), qn_sm (by show 0 ≤ ((qs_lo x / 2 : Nat) : Int) ∧ ((qs_lo x / 2 : Nat) : Int) ≤ 100; omega)⟩
      · simp (disch := omega) only [↓reduceIte, ↓qa_b, qa_b, qa_lit, qa_neg1, qa_qN, nI_add, pk_mul, qa_ix, qa_cl, qa_ltT, qa_ltF, qa_eqT, qa_eqF, qa_nN, qa_Nn, qa_ltN, qa_Nlt, qa_NN, qa_ltNN, qa_sub, qa_dec, qa_dec0, qa_sub0, qa_incN, qa_31, qa_shr, qa_shl, qa_and1, va_up_self, qa_une, pk_us, pk_un, qa_up2, qa_upd2, Option.bind_some, if_true, if_false, and_true, true_and, and_self, qa_f1, qa_f2]
        exact ⟨nI_toInt (by omega), qn_sm (by show 0 ≤ (y : Int) ∧ (y : Int) ≤ 100; omega)⟩)
    refine ⟨w', ?_, fun c h1 h2 => ?_⟩
    · simp (disch := omega) only [↓reduceIte, ↓qa_b, qa_b, qa_lit, qa_neg1, qa_qN, nI_add, pk_mul, qa_ix, qa_cl, qa_ltT, qa_ltF, qa_eqT, qa_eqF, qa_nN, qa_Nn, qa_ltN, qa_Nlt, qa_NN, qa_ltNN, qa_sub, qa_dec, qa_dec0, qa_sub0, qa_incN, qa_31, qa_shr, qa_shl, qa_and1, va_up_self, qa_une, pk_us, pk_un, qa_up2, qa_upd2, Option.bind_some, if_true, if_false, and_true, true_and, and_self, qa_f1, qa_f2, zM_may_J41, e1, ql_qb]
      rfl
    · rw [e2.1 c h2]
      simp (disch := omega) only [↓reduceIte, ↓qa_b, qa_b, qa_lit, qa_neg1, qa_qN, nI_add, pk_mul, qa_ix, qa_cl, qa_ltT, qa_ltF, qa_eqT, qa_eqF, qa_nN, qa_Nn, qa_ltN, qa_Nlt, qa_NN, qa_ltNN, qa_sub, qa_dec, qa_dec0, qa_sub0, qa_incN, qa_31, qa_shr, qa_shl, qa_and1, va_up_self, qa_une, pk_us, pk_un, qa_up2, qa_upd2, Option.bind_some, if_true, if_false, and_true, true_and, and_self, qa_f1, qa_f2]
  by_cases hb : qs_bn x = 1
  · obtain ⟨w', e1, e2⟩ := key (qs_lo x % 2) (by omega)
    refine ⟨w', ?_, e2⟩
    rw [if_pos hb]
    rw [hb] at eb
    simp (disch := omega) only [↓reduceIte, ↓qa_b, qa_b, qa_lit, qa_neg1, qa_qN, nI_add, pk_mul, qa_ix, qa_cl, qa_ltT, qa_ltF, qa_eqT, qa_eqF, qa_nN, qa_Nn, qa_ltN, qa_Nlt, qa_NN, qa_ltNN, qa_sub, qa_dec, qa_dec0, qa_sub0, qa_incN, qa_31, qa_shr, qa_shl, qa_and1, va_up_self, qa_une, pk_us, pk_un, qa_up2, qa_upd2, Option.bind_some, if_true, if_false, and_true, true_and, and_self, qa_f1, qa_f2, zM_may, en, el, eb, d1, d2]
    exact e1
  · obtain ⟨w', e1, e2⟩ := key 0 (by omega)
    refine ⟨w', ?_, e2⟩
    rw [if_neg hb]
    have bb : qs_bn x < 100 := by unfold qs_bn; omega
    simp (disch := omega) only [↓reduceIte, ↓qa_b, qa_b, qa_lit, qa_neg1, qa_qN, nI_add, pk_mul, qa_ix, qa_cl, qa_ltT, qa_ltF, qa_eqT, qa_eqF, qa_nN, qa_Nn, qa_ltN, qa_Nlt, qa_NN, qa_ltNN, qa_sub, qa_dec, qa_dec0, qa_sub0, qa_incN, qa_31, qa_shr, qa_shl, qa_and1, va_up_self, qa_une, pk_us, pk_un, qa_up2, qa_upd2, Option.bind_some, if_true, if_false, and_true, true_and, and_self, qa_f1, qa_f2, zM_may, en, el, eb, d1, d2]
    exact e1
theorem qm_mayPass (HA : qi_a L P pn fn tn bn (w.1 84)) (hP : P ≤ 8) (hask : qk_askM w) {t f x y : Nat} (ht : t < bn) (hf : f < fn) (ho : qs_on (w.1 84) t f = true) (hx : x < 64) (hx0 : 0 < x) (hy : y < 64) (hy0 : 0 < y) : ∃ w', zM_mayPass (nI t) (nI f) (nI x) (nI y) w = some (qs_b (qs_law (w.1 84) (w.1 86) 1 t f (qs_lo x / 2) (qs_lo y / 2)), w') ∧ qf_s w w' := by
  obtain ⟨a0, a1, a4, a6, lpn, lfn, ltn, lbn⟩ := HA.1
  obtain ⟨k1, k2⟩ := qi_kd HA hf
  obtain ⟨p1, p2, p3⟩ := qi_plc HA hP ht hf ho
  have en := qm_name (w := w) (t := t) (f := f) (by omega) (by omega)
  have el := qm_lowest' hx hx0
  have em := qm_lowest' hy hy0
  have ll := qs_lo_lt x
  have lm := qs_lo_lt y
  have d1 : nI (qs_lo x) / nI 2 = nI (qs_lo x / 2) := pk_div (by omega) (by omega) (by omega)
  have d2 : nI (qs_lo y) / nI 2 = nI (qs_lo y / 2) := pk_div (by omega) (by omega) (by omega)
  obtain ⟨w', e1, e2⟩ := hask 1 (va_up w.1 89 (upd (upd (upd (upd (upd (upd (w.1 89) 0 (nI f)) 1 (w.1 84 (20 + 2 * f))) 2 (w.1 84 (50 + 6 * t + f))) 3 (nI t)) 6 (nI (qs_lo x / 2))) 7 (nI (qs_lo y / 2))), w.2) (qn_c f (qs_kd (w.1 84) f) (qs_pl (w.1 84) t f) t (qs_lo x / 2 : Nat) (qs_lo y / 2 : Nat)) (by omega) (by simp (disch := omega) only [↓reduceIte, ↓qa_b, qa_b, qa_lit, qa_neg1, qa_qN, nI_add, pk_mul, qa_ix, qa_cl, qa_ltT, qa_ltF, qa_eqT, qa_eqF, qa_nN, qa_Nn, qa_ltN, qa_Nlt, qa_NN, qa_ltNN, qa_sub, qa_dec, qa_dec0, qa_sub0, qa_incN, qa_31, qa_shr, qa_shl, qa_and1, va_up_self, qa_une, pk_us, pk_un, qa_up2, qa_upd2, Option.bind_some, if_true, if_false, and_true, true_and, and_self, qa_f1, qa_f2]) (by simp (disch := omega) only [↓reduceIte, ↓qa_b, qa_b, qa_lit, qa_neg1, qa_qN, nI_add, pk_mul, qa_ix, qa_cl, qa_ltT, qa_ltF, qa_eqT, qa_eqF, qa_nN, qa_Nn, qa_ltN, qa_Nlt, qa_NN, qa_ltNN, qa_sub, qa_dec, qa_dec0, qa_sub0, qa_incN, qa_31, qa_shr, qa_shl, qa_and1, va_up_self, qa_une, pk_us, pk_un, qa_up2, qa_upd2, Option.bind_some, if_true, if_false, and_true, true_and, and_self, qa_f1, qa_f2]) (fun v hv => by
    rcases (show v = 0 ∨ v = 1 ∨ v = 2 ∨ v = 3 ∨ v = 6 ∨ v = 7 by omega) with rfl | rfl | rfl | rfl | rfl | rfl
    · simp (disch := omega) only [↓reduceIte, ↓qa_b, qa_b, qa_lit, qa_neg1, qa_qN, nI_add, pk_mul, qa_ix, qa_cl, qa_ltT, qa_ltF, qa_eqT, qa_eqF, qa_nN, qa_Nn, qa_ltN, qa_Nlt, qa_NN, qa_ltNN, qa_sub, qa_dec, qa_dec0, qa_sub0, qa_incN, qa_31, qa_shr, qa_shl, qa_and1, va_up_self, qa_une, pk_us, pk_un, qa_up2, qa_upd2, Option.bind_some, if_true, if_false, and_true, true_and, and_self, qa_f1, qa_f2]
      exact ⟨nI_toInt (by omega), qn_sm (by show 0 ≤ (f : Int) ∧ (f : Int) ≤ 100; omega)⟩
    · simp (disch := omega) only [↓reduceIte, ↓qa_b, qa_b, qa_lit, qa_neg1, qa_qN, nI_add, pk_mul, qa_ix, qa_cl, qa_ltT, qa_ltF, qa_eqT, qa_eqF, qa_nN, qa_Nn, qa_ltN, qa_Nlt, qa_NN, qa_ltNN, qa_sub, qa_dec, qa_dec0, qa_sub0, qa_incN, qa_31, qa_shr, qa_shl, qa_and1, va_up_self, qa_une, pk_us, pk_un, qa_up2, qa_upd2, Option.bind_some, if_true, if_false, and_true, true_and, and_self, qa_f1, qa_f2, k1]
      exact ⟨nI_toInt (by omega), qn_sm (by show 0 ≤ (qs_kd (w.1 84) f : Int) ∧ (qs_kd (w.1 84) f : Int) ≤ 100; omega)⟩
    · simp (disch := omega) only [↓reduceIte, ↓qa_b, qa_b, qa_lit, qa_neg1, qa_qN, nI_add, pk_mul, qa_ix, qa_cl, qa_ltT, qa_ltF, qa_eqT, qa_eqF, qa_nN, qa_Nn, qa_ltN, qa_Nlt, qa_NN, qa_ltNN, qa_sub, qa_dec, qa_dec0, qa_sub0, qa_incN, qa_31, qa_shr, qa_shl, qa_and1, va_up_self, qa_une, pk_us, pk_un, qa_up2, qa_upd2, Option.bind_some, if_true, if_false, and_true, true_and, and_self, qa_f1, qa_f2, p1]
      exact ⟨nI_toInt (by omega), qn_sm (by show 0 ≤ (qs_pl (w.1 84) t f : Int) ∧ (qs_pl (w.1 84) t f : Int) ≤ 100; omega)⟩
    · simp (disch := omega) only [↓reduceIte, ↓qa_b, qa_b, qa_lit, qa_neg1, qa_qN, nI_add, pk_mul, qa_ix, qa_cl, qa_ltT, qa_ltF, qa_eqT, qa_eqF, qa_nN, qa_Nn, qa_ltN, qa_Nlt, qa_NN, qa_ltNN, qa_sub, qa_dec, qa_dec0, qa_sub0, qa_incN, qa_31, qa_shr, qa_shl, qa_and1, va_up_self, qa_une, pk_us, pk_un, qa_up2, qa_upd2, Option.bind_some, if_true, if_false, and_true, true_and, and_self, qa_f1, qa_f2]
      exact ⟨nI_toInt (by omega), qn_sm (by show 0 ≤ (t : Int) ∧ (t : Int) ≤ 100; omega)⟩
    · simp (disch := omega) only [↓reduceIte, ↓qa_b, qa_b, qa_lit, qa_neg1, qa_qN, nI_add, pk_mul, qa_ix, qa_cl, qa_ltT, qa_ltF, qa_eqT, qa_eqF, qa_nN, qa_Nn, qa_ltN, qa_Nlt, qa_NN, qa_ltNN, qa_sub, qa_dec, qa_dec0, qa_sub0, qa_incN, qa_31, qa_shr, qa_shl, qa_and1, va_up_self, qa_une, pk_us, pk_un, qa_up2, qa_upd2, Option.bind_some, if_true, if_false, and_true, true_and, and_self, qa_f1, qa_f2]
      exact ⟨nI_toInt (by omega), qn_sm (by show 0 ≤ ((qs_lo x / 2 : Nat) : Int) ∧ ((qs_lo x / 2 : Nat) : Int) ≤ 100; omega)⟩
    · simp (disch := omega) only [↓reduceIte, ↓qa_b, qa_b, qa_lit, qa_neg1, qa_qN, nI_add, pk_mul, qa_ix, qa_cl, qa_ltT, qa_ltF, qa_eqT, qa_eqF, qa_nN, qa_Nn, qa_ltN, qa_Nlt, qa_NN, qa_ltNN, qa_sub, qa_dec, qa_dec0, qa_sub0, qa_incN, qa_31, qa_shr, qa_shl, qa_and1, va_up_self, qa_une, pk_us, pk_un, qa_up2, qa_upd2, Option.bind_some, if_true, if_false, and_true, true_and, and_self, qa_f1, qa_f2]
      exact ⟨nI_toInt (by omega), qn_sm (by show 0 ≤ ((qs_lo y / 2 : Nat) : Int) ∧ ((qs_lo y / 2 : Nat) : Int) ≤ 100; omega)⟩)
  refine ⟨w', ?_, fun c h1 h2 => ?_⟩
  · simp (disch := omega) only [↓reduceIte, ↓qa_b, qa_b, qa_lit, qa_neg1, qa_qN, nI_add, pk_mul, qa_ix, qa_cl, qa_ltT, qa_ltF, qa_eqT, qa_eqF, qa_nN, qa_Nn, qa_ltN, qa_Nlt, qa_NN, qa_ltNN, qa_sub, qa_dec, qa_dec0, qa_sub0, qa_incN, qa_31, qa_shr, qa_shl, qa_and1, va_up_self, qa_une, pk_us, pk_un, qa_up2, qa_upd2, Option.bind_some, if_true, if_false, and_true, true_and, and_self, qa_f1, qa_f2, zM_mayPass, en, el, em, d1, d2, e1, ql_qb]
    rfl
  · rw [e2.1 c h2]
    simp (disch := omega) only [↓reduceIte, ↓qa_b, qa_b, qa_lit, qa_neg1, qa_qN, nI_add, pk_mul, qa_ix, qa_cl, qa_ltT, qa_ltF, qa_eqT, qa_eqF, qa_nN, qa_Nn, qa_ltN, qa_Nlt, qa_NN, qa_ltNN, qa_sub, qa_dec, qa_dec0, qa_sub0, qa_incN, qa_31, qa_shr, qa_shl, qa_and1, va_up_self, qa_une, pk_us, pk_un, qa_up2, qa_upd2, Option.bind_some, if_true, if_false, and_true, true_and, and_self, qa_f1, qa_f2]
/-- a place is in a puppeteer's reach -/
def qs_rc (a : Nat → Int32) (p pl : Nat) : Bool := decide (pl ≤ qv a (10 + 2 * p) + qv a (10 + 2 * p + 1) ∧ qv a (10 + 2 * p) ≤ pl + qv a (10 + 2 * p + 1))
theorem qi_hr (HA : qi_a L P pn fn tn bn (w.1 84)) (hP : P ≤ 8) {p : Nat} (hp : p < pn) : w.1 84 (10 + 2 * p) = nI (qv (w.1 84) (10 + 2 * p)) ∧ qv (w.1 84) (10 + 2 * p) < 8 ∧ w.1 84 (10 + 2 * p + 1) = nI (qv (w.1 84) (10 + 2 * p + 1)) ∧ qv (w.1 84) (10 + 2 * p + 1) < 8 := by
  have q1 := qv_of (P := P) (by omega) (HA.2.2.2.2.1 p hp).1
  have q2 := qv_ofle (P := 7) (by omega) (HA.2.2.2.2.1 p hp).2
  exact ⟨q1.1, Nat.lt_of_lt_of_le q1.2 hP, q2.1, by omega⟩
theorem qm_rc8 : ∀ pl, pl < 8 → ∀ hm, hm < 8 → ∀ rc, rc < 8 → zM_isIn (nI pl - nI hm) (-(nI rc)) (nI rc) = qs_b (decide (pl ≤ hm + rc ∧ hm ≤ pl + rc)) := by decide +kernel
theorem qh_rc8 : ∀ pl, pl < 8 → ∀ hm, hm < 8 → ∀ rc, rc < 8 → (nI rc < zD_abs (nI hm - nI pl)) = (decide (pl ≤ hm + rc ∧ hm ≤ pl + rc) = false) := by
  have : ∀ pl, pl < 8 → ∀ hm, hm < 8 → ∀ rc, rc < 8 → (nI rc < zD_abs (nI hm - nI pl) ↔ decide (pl ≤ hm + rc ∧ hm ≤ pl + rc) = false) := by decide +kernel
  exact fun pl h1 hm h2 rc h3 => propext (this pl h1 hm h2 rc h3)
/-- all of some hands, from one on, reach a place -/
def qs_ir (r : Nat → Bool) (x : Nat) : Nat → Nat → Bool
  | _, 0 => true
  | i, k + 1 => if x.testBit i && !r (i / 2) then false else qs_ir r x (i + 1) k
theorem qm_reachL (HA : qi_a L P pn fn tn bn (w.1 84)) (hP : P ≤ 8) {pl x : Nat} (hpl : pl < 8) (hx : x < 64) : ∀ (k n i : Nat), i + k = 2 * pn → k < n → zM_isInReach_L2 n (nI pl) (nI x) (nI i) w = some (qs_b (qs_ir (fun p => qs_rc (w.1 84) p pl) x i k))
  | 0, n + 1, i, hi, _ => by
    obtain ⟨a0, a1, a4, a6, lpn, lfn, ltn, lbn⟩ := HA.1
    simp (disch := omega) only [↓reduceIte, ↓qa_b, qa_b, qa_lit, qa_neg1, qa_qN, nI_add, pk_mul, qa_ix, qa_cl, qa_ltT, qa_ltF, qa_eqT, qa_eqF, qa_nN, qa_Nn, qa_ltN, qa_Nlt, qa_NN, qa_ltNN, qa_sub, qa_dec, qa_dec0, qa_sub0, qa_incN, qa_31, qa_shr, qa_shl, qa_and1, va_up_self, qa_une, pk_us, pk_un, qa_up2, qa_upd2, Option.bind_some, if_true, if_false, and_true, true_and, and_self, qa_f1, qa_f2, zM_isInReach_L2, zM_hands, a0, qs_ir]
    rfl
  | k + 1, n + 1, i, hi, hn => by
    obtain ⟨a0, a1, a4, a6, lpn, lfn, ltn, lbn⟩ := HA.1
    have ih := qm_reachL HA hP hpl hx k n (i + 1) (by omega) (by omega)
    obtain ⟨h1, h2, h3, h4⟩ := qi_hr HA hP (p := i / 2) (by omega)
    have d1 : nI i / nI 2 = nI (i / 2) := pk_div (by omega) (by omega) (by omega)
    have e8 := qm_rc8 pl hpl (qv (w.1 84) (10 + 2 * (i / 2))) h2 (qv (w.1 84) (10 + 2 * (i / 2) + 1)) h4
    unfold qs_ir
    cases hb : x.testBit i
    · simp (disch := omega) only [↓reduceIte, ↓qa_b, zM_isInReach_L2, zM_hands, a0, pk_mul, qa_ltT, qa_lit, qa_31, qa_shr, qa_and1, qa_tb, hb, nI_add, Bool.false_and, Bool.false_eq_true]
      exact ih
    · have eR : qs_rc (w.1 84) (i / 2) pl = decide (pl ≤ qv (w.1 84) (10 + 2 * (i / 2)) + qv (w.1 84) (10 + 2 * (i / 2) + 1) ∧ qv (w.1 84) (10 + 2 * (i / 2)) ≤ pl + qv (w.1 84) (10 + 2 * (i / 2) + 1)) := rfl
      rw [← eR] at e8
      cases hr : qs_rc (w.1 84) (i / 2) pl
      · rw [hr] at e8
        simp (disch := omega) only [↓reduceIte, ↓qa_b, zM_isInReach_L2, zM_hands, zM_homeOf, a0, pk_mul, qa_ltT, qa_lit, qa_31, qa_shr, qa_and1, qa_tb, hb, nI_add, Bool.true_eq_false, d1, qa_ix, qa_cl, h1, h3, Option.bind_some, e8, qs_b0, Bool.true_and, Bool.not_false]
        rfl
      · rw [hr] at e8
        simp (disch := omega) only [↓reduceIte, ↓qa_b, zM_isInReach_L2, zM_hands, zM_homeOf, a0, pk_mul, qa_ltT, qa_lit, qa_31, qa_shr, qa_and1, qa_tb, hb, nI_add, Bool.true_eq_false, d1, qa_ix, qa_cl, h1, h3, Option.bind_some, e8, qs_b0, Bool.true_and, Bool.not_true, Bool.false_eq_true]
        exact ih
theorem qm_reach (HA : qi_a L P pn fn tn bn (w.1 84)) (hP : P ≤ 8) {pl x : Nat} (hpl : pl < 8) (hx : x < 64) : zM_isInReach (nI pl) (nI x) w = some (qs_b (qs_ir (fun p => qs_rc (w.1 84) p pl) x 0 (2 * pn))) := qm_reachL HA hP hpl hx (2 * pn) am_N 0 (by omega) (Nat.lt_of_le_of_lt (show 2 * pn ≤ 6 by have := HA.1; omega) (by decide))
end
