/-! THE HEART: the start: both constructors -/
def qS_P (p : Int32) : Int32 := zD_max 3 (zD_min 8 p)
section
variable {p : Int32} {h hm : Nat → Nat → Int32} {g : Nat → Nat → Int64}
theorem qS_1 : zX0 p h 1 0 = qS_P p ∧ zX0 p h 1 1 = nI 0 ∧ zX0 p h 1 4 = nI 0 ∧ zX0 p h 1 9 = nI 0 ∧ zX0 p h 1 10 = nI 0 ∧ zX0 p h 1 11 = nI 0 ∧ zX0 p h 1 12 = qN ∧ zX0 p h 1 13 = nI 0 := by
  refine ⟨?_, ?_, ?_, ?_, ?_, ?_, ?_, ?_⟩ <;> simp (disch := omega) only [qa_b, qa_lit, qa_neg1, qa_qN, nI_add, pk_mul, qa_ix, qa_cl, qa_ltT, qa_ltF, qa_eqT, qa_eqF, qa_nN, qa_Nn, qa_ltN, qa_Nlt, qa_NN, qa_ltNN, qa_sub, qa_dec, qa_dec0, qa_sub0, qa_incN, qa_31, qa_shr, qa_shl, qa_and1, va_up_self, qa_une, pk_us, pk_un, qa_up2, qa_upd2, Option.bind_some, if_true, if_false, and_true, true_and, and_self, qa_f1, qa_f2, qS_P, zX0, zI13_h, zI12_h, zI11_h, zI10_h, zI9_h, zI8_h, zI7_h, zI6_h, zI5_h, zI4_h, zI3_h, zI2_h, zI1_h]
theorem qS_10 : zX0 p h 10 0 = qS_P p ∧ zX0 p h 10 1 = nI 0 ∧ zX0 p h 10 4 = nI 0 ∧ zX0 p h 10 9 = nI 0 ∧ zX0 p h 10 10 = nI 0 ∧ zX0 p h 10 11 = nI 0 ∧ zX0 p h 10 12 = qN ∧ zX0 p h 10 13 = nI 0 := by
  refine ⟨?_, ?_, ?_, ?_, ?_, ?_, ?_, ?_⟩ <;> simp (disch := omega) only [qa_b, qa_lit, qa_neg1, qa_qN, nI_add, pk_mul, qa_ix, qa_cl, qa_ltT, qa_ltF, qa_eqT, qa_eqF, qa_nN, qa_Nn, qa_ltN, qa_Nlt, qa_NN, qa_ltNN, qa_sub, qa_dec, qa_dec0, qa_sub0, qa_incN, qa_31, qa_shr, qa_shl, qa_and1, va_up_self, qa_une, pk_us, pk_un, qa_up2, qa_upd2, Option.bind_some, if_true, if_false, and_true, true_and, and_self, qa_f1, qa_f2, qS_P, zX0, zI13_h, zI12_h, zI11_h, zI10_h, zI9_h, zI8_h, zI7_h, zI6_h, zI5_h, zI4_h, zI3_h, zI2_h, zI1_h]
theorem qS_f : (∀ f, zX0 p h 6 f = nI 0) ∧ (∀ f, f < 6 → zX0 p h 7 f = qN) ∧ (∀ f, zX0 p h 9 f = nI 0) ∧ (∀ f, zX0 p h 15 f = nI 0) ∧ (∀ f, f < 6 → zX0 p h 16 f = qN) ∧ (∀ f, zX0 p h 18 f = nI 0) := by
  refine ⟨fun f => ?_, fun f hf => ?_, fun f => ?_, fun f => ?_, fun f hf => ?_, fun f => ?_⟩ <;> simp (disch := omega) only [qa_b, qa_lit, qa_neg1, qa_qN, nI_add, pk_mul, qa_ix, qa_cl, qa_ltT, qa_ltF, qa_eqT, qa_eqF, qa_nN, qa_Nn, qa_ltN, qa_Nlt, qa_NN, qa_ltNN, qa_sub, qa_dec, qa_dec0, qa_sub0, qa_incN, qa_31, qa_shr, qa_shl, qa_and1, va_up_self, qa_une, pk_us, pk_un, qa_up2, qa_upd2, Option.bind_some, if_true, if_false, and_true, true_and, and_self, qa_f1, qa_f2, qa_fill, zX0, zI13_h, zI12_h, zI11_h, zI10_h, zI9_h, zI8_h, zI7_h, zI6_h, zI5_h, zI4_h, zI3_h, zI2_h, zI1_h]
theorem qS_o : (∀ f, zX0 p h 53 f = nI 0) ∧ (∀ f, zX0 p h 54 f = nI 0) ∧ zX0 p h 55 1 = qN ∧ zX0 p h 55 2 = qN ∧ zX0 p h 56 1 = nI 0 ∧ zX0 p h 59 2 = nI 0 ∧ (∀ f, zX0 p h 77 f = nI 0) ∧ (∀ f, zX0 p h 80 f = nI 0) := by
  refine ⟨fun f => ?_, fun f => ?_, ?_, ?_, ?_, ?_, fun f => ?_, fun f => ?_⟩ <;> simp (disch := omega) only [qa_b, qa_lit, qa_neg1, qa_qN, nI_add, pk_mul, qa_ix, qa_cl, qa_ltT, qa_ltF, qa_eqT, qa_eqF, qa_nN, qa_Nn, qa_ltN, qa_Nlt, qa_NN, qa_ltNN, qa_sub, qa_dec, qa_dec0, qa_sub0, qa_incN, qa_31, qa_shr, qa_shl, qa_and1, va_up_self, qa_une, pk_us, pk_un, qa_up2, qa_upd2, Option.bind_some, if_true, if_false, and_true, true_and, and_self, qa_f1, qa_f2, qa_fill, zX0, zI13_h, zI12_h, zI11_h, zI10_h, zI9_h, zI8_h, zI7_h, zI6_h, zI5_h, zI4_h, zI3_h, zI2_h, zI1_h]
theorem qS_w : (∀ j, (zW0 hm g).1 84 j = nI 0) ∧ (zW0 hm g).1 83 5 = nI 0 ∧ (zW0 hm g).1 83 6 = qN ∧ (zW0 hm g).1 83 7 = qN := by
  refine ⟨fun j => ?_, ?_, ?_, ?_⟩ <;> simp (disch := omega) only [qa_b, qa_lit, qa_neg1, qa_qN, nI_add, pk_mul, qa_ix, qa_cl, qa_ltT, qa_ltF, qa_eqT, qa_eqF, qa_nN, qa_Nn, qa_ltN, qa_Nlt, qa_NN, qa_ltNN, qa_sub, qa_dec, qa_dec0, qa_sub0, qa_incN, qa_31, qa_shr, qa_shl, qa_and1, va_up_self, qa_une, pk_us, pk_un, qa_up2, qa_upd2, Option.bind_some, if_true, if_false, and_true, true_and, and_self, qa_f1, qa_f2, zW0, zIM_m]
theorem qS_200 : ∀ (k n i : Nat) (w : zHM), i + k = 144 → k < n → ∃ a', zM_init_L200 n (nI i) w = (zM_copy (va_up w.1 84 a', w.2)).bind some ∧ ∀ j, j < 50 → a' j = w.1 84 j
  | k, 0, i, w, _, hn => by omega
  | 0, n + 1, i, w, hi, hn => by
    refine ⟨w.1 84, ?_, fun _ _ => rfl⟩
    rw [zM_init_L200.eq_2, qa_upsm, if_neg (by rw [qa_lit]; exact nI_nlt (by omega) (by omega))]
  | k + 1, n + 1, i, w, hi, hn => by
    obtain ⟨a', e, f⟩ := qS_200 k n (i + 1) (va_up w.1 84 (upd (w.1 84) (50 + i) qN), w.2) (by omega) (by omega)
    refine ⟨a', ?_, fun j hj => ?_⟩
    · rw [zM_init_L200.eq_2]
      simp (disch := omega) only [qa_b, qa_lit, qa_neg1, qa_qN, nI_add, pk_mul, qa_ix, qa_cl, qa_ltT, qa_ltF, qa_eqT, qa_eqF, qa_nN, qa_Nn, qa_ltN, qa_Nlt, qa_NN, qa_ltNN, qa_sub, qa_dec, qa_dec0, qa_sub0, qa_incN, qa_31, qa_shr, qa_shl, qa_and1, va_up_self, qa_une, pk_us, pk_un, qa_up2, qa_upd2, Option.bind_some, if_true, if_false, and_true, true_and, and_self, qa_f1, qa_f2]
      rw [e]
      simp (disch := omega) only [qa_b, qa_lit, qa_neg1, qa_qN, nI_add, pk_mul, qa_ix, qa_cl, qa_ltT, qa_ltF, qa_eqT, qa_eqF, qa_nN, qa_Nn, qa_ltN, qa_Nlt, qa_NN, qa_ltNN, qa_sub, qa_dec, qa_dec0, qa_sub0, qa_incN, qa_31, qa_shr, qa_shl, qa_and1, va_up_self, qa_une, pk_us, pk_un, qa_up2, qa_upd2, Option.bind_some, if_true, if_false, and_true, true_and, and_self, qa_f1, qa_f2]
    · rw [f j hj]
      simp (disch := omega) only [qa_b, qa_lit, qa_neg1, qa_qN, nI_add, pk_mul, qa_ix, qa_cl, qa_ltT, qa_ltF, qa_eqT, qa_eqF, qa_nN, qa_Nn, qa_ltN, qa_Nlt, qa_NN, qa_ltNN, qa_sub, qa_dec, qa_dec0, qa_sub0, qa_incN, qa_31, qa_shr, qa_shl, qa_and1, va_up_self, qa_une, pk_us, pk_un, qa_up2, qa_upd2, Option.bind_some, if_true, if_false, and_true, true_and, and_self, qa_f1, qa_f2]
theorem qS_176 : ∀ (k n i : Nat) (w : zHM), i + k = 6 → k < n → ∃ a', zM_init_L176 n (nI i) w = zM_init_L200 am_N 0 (va_up w.1 84 a', w.2) ∧ ∀ j, j < 40 → a' j = w.1 84 j
  | k, 0, i, w, _, hn => by omega
  | 0, n + 1, i, w, hi, hn => by
    refine ⟨w.1 84, ?_, fun _ _ => rfl⟩
    rw [zM_init_L176.eq_2, qa_upsm, if_neg (by rw [qa_lit]; exact nI_nlt (by omega) (by omega))]
  | k + 1, n + 1, i, w, hi, hn => by
    obtain ⟨a', e, f⟩ := qS_176 k n (i + 1) (va_up w.1 84 (upd (w.1 84) (40 + i) qN), w.2) (by omega) (by omega)
    refine ⟨a', ?_, fun j hj => ?_⟩
    · rw [zM_init_L176.eq_2]
      generalize am_N = N at e ⊢
      simp (disch := omega) only [qa_b, qa_lit, qa_neg1, qa_qN, nI_add, pk_mul, qa_ix, qa_cl, qa_ltT, qa_ltF, qa_eqT, qa_eqF, qa_nN, qa_Nn, qa_ltN, qa_Nlt, qa_NN, qa_ltNN, qa_sub, qa_dec, qa_dec0, qa_sub0, qa_incN, qa_31, qa_shr, qa_shl, qa_and1, va_up_self, qa_une, pk_us, pk_un, qa_up2, qa_upd2, Option.bind_some, if_true, if_false, and_true, true_and, and_self, qa_f1, qa_f2]
      rw [e]
      simp (disch := omega) only [qa_b, qa_lit, qa_neg1, qa_qN, nI_add, pk_mul, qa_ix, qa_cl, qa_ltT, qa_ltF, qa_eqT, qa_eqF, qa_nN, qa_Nn, qa_ltN, qa_Nlt, qa_NN, qa_ltNN, qa_sub, qa_dec, qa_dec0, qa_sub0, qa_incN, qa_31, qa_shr, qa_shl, qa_and1, va_up_self, qa_une, pk_us, pk_un, qa_up2, qa_upd2, Option.bind_some, if_true, if_false, and_true, true_and, and_self, qa_f1, qa_f2]
    · rw [f j hj]
      simp (disch := omega) only [qa_b, qa_lit, qa_neg1, qa_qN, nI_add, pk_mul, qa_ix, qa_cl, qa_ltT, qa_ltF, qa_eqT, qa_eqF, qa_nN, qa_Nn, qa_ltN, qa_Nlt, qa_NN, qa_ltNN, qa_sub, qa_dec, qa_dec0, qa_sub0, qa_incN, qa_31, qa_shr, qa_shl, qa_and1, va_up_self, qa_une, pk_us, pk_un, qa_up2, qa_upd2, Option.bind_some, if_true, if_false, and_true, true_and, and_self, qa_f1, qa_f2]
theorem qS_164 (s : Int32) : ∃ a' b', zM_init_J164 s (zW0 hm g) = some (va_up (va_up (va_up (zW0 hm g).1 83 (upd ((zW0 hm g).1 83) 2 s)) 84 a') 85 b', (zW0 hm g).2) ∧ (∀ j, j < 40 → j ≠ 5 → a' j = nI 0) ∧ a' 5 = qN ∧ ∀ j, j < 350 → b' j = a' j := by
  obtain ⟨z84, -, -, -⟩ := qS_w (hm := hm) (g := g)
  generalize zW0 hm g = w at z84 ⊢
  obtain ⟨a1, e1, f1⟩ := qS_176 6 am_N 0 (va_up (va_up w.1 83 (upd (w.1 83) 2 s)) 84 (upd (w.1 84) 5 qN), w.2) (by omega) (by decide)
  obtain ⟨a2, e2, f2⟩ := qS_200 144 am_N 0 (va_up (va_up w.1 83 (upd (w.1 83) 2 s)) 84 a1, w.2) (by omega) (by decide)
  obtain ⟨b', e3, f3, -⟩ := qm_copyL 350 am_N 0 (va_up (va_up w.1 83 (upd (w.1 83) 2 s)) 84 a2, w.2) (by omega) (by decide)
  refine ⟨a2, b', ?_, fun j hj h5 => ?_, ?_, fun j hj => ?_⟩
  · unfold zM_init_J164
    rw [qa_b, qa_b]
    have x1 : (va_up (va_up w.1 83 (upd (w.1 83) 2 s)) 84 (upd ((va_up w.1 83 (upd (w.1 83) 2 s)) 84) 5 (-1)), w.2) = (va_up (va_up w.1 83 (upd (w.1 83) 2 s)) 84 (upd (w.1 84) 5 qN), w.2) := by rw [qa_une _ _ (by omega), qa_qN]
    have z0 : (0 : Int32) = nI 0 := qa_lit 0
    show zM_init_L176 am_N 0 (va_up (va_up w.1 83 (upd (w.1 83) 2 s)) 84 (upd ((va_up w.1 83 (upd (w.1 83) 2 s)) 84) 5 (-1)), w.2) = _
    rw [x1, z0, e1, qa_f1, qa_f2, qa_up2, z0, e2, qa_f1, qa_f2, qa_up2]
    unfold zM_copy
    rw [z0, e3]
    rfl
  · rw [f2 j (by omega), qa_f1, va_up_self, f1 j hj, qa_f1, va_up_self, pk_un h5]
    exact z84 j
  · rw [f2 5 (by omega), qa_f1, va_up_self, f1 5 (by omega), qa_f1, va_up_self, pk_us]
  · rw [f3 j (by omega) hj, qa_f1, va_up_self]
end
section
theorem qS_Pv (p : Int32) : ∃ P, 3 ≤ P ∧ P ≤ 8 ∧ qS_P p = nI P ∧ ∀ w, zM_init_J142 p w = zM_init_J164 (nI P) w := by
  have z3 : (3 : Int32) = nI 3 := qa_lit 3
  have z8 : (8 : Int32) = nI 8 := qa_lit 8
  unfold qS_P zD_max zD_min zM_init_J142
  rw [z3, z8]
  rcases qa_or p with hp | ⟨x, hx, rfl⟩
  · have h3 : (p < nI 3) = True := qa_neg_lt hp (by omega)
    have h8 : (p < nI 8) = True := qa_neg_lt hp (by omega)
    have h3' : (nI 3 < p) = False := qa_neg_nlt hp (by omega)
    exact ⟨3, by omega, by omega, by simp only [h8, h3', if_true, if_false], fun w => by simp only [h3, if_true]⟩
  · by_cases h3 : x < 3
    · exact ⟨3, by omega, by omega, by rw [if_pos (nI_lt (by omega) (by omega)), if_neg (nI_nlt (by omega) (by omega))], fun w => by rw [if_pos (nI_lt (by omega) (by omega))]⟩
    · by_cases h8 : 8 < x
      · exact ⟨8, by omega, by omega, by rw [if_neg (nI_nlt (by omega) (by omega)), if_pos (nI_lt (by omega) (by omega))], fun w => by rw [if_neg (nI_nlt (by omega) (by omega)), if_pos (nI_lt (by omega) (by omega))]⟩
      · refine ⟨x, by omega, by omega, ?_, fun w => by rw [if_neg (nI_nlt (by omega) (by omega)), if_neg (nI_nlt (by omega) (by omega))]⟩
        by_cases e8 : x = 8
        · subst e8
          rw [if_neg (nI_nlt (by omega) (by omega)), if_pos (nI_lt (by omega) (by omega))]
        · rw [if_pos (nI_lt (by omega) (by omega))]
          by_cases e3 : x = 3
          · subst e3
            rw [if_neg (nI_nlt (by omega) (by omega))]
          · rw [if_pos (nI_lt (by omega) (by omega))]
theorem qS_a {P : Nat} {a : Nat → Int32} (z : ∀ j, j < 40 → j ≠ 5 → a j = nI 0) (z5 : a 5 = qN) : qi_a (100 * 0) P 0 0 0 0 a := by
  refine ⟨⟨z 0 (by omega) (by omega), z 1 (by omega) (by omega), z 4 (by omega) (by omega), z 6 (by omega) (by omega), by omega, by omega, by omega, by omega⟩, ⟨0, by omega, z 2 (by omega) (by omega)⟩, ⟨0, by omega, z 3 (by omega) (by omega)⟩, Or.inl z5, fun p hp => by omega, fun p hp => by omega, fun t f ht => by omega⟩
theorem qS_start (p : Int32) (h hm : Nat → Nat → Int32) (g : Nat → Nat → Int64) : ∃ R, zM_init_J142 p (zW0 hm g) = some R ∧ qi_inv 0 (zX0 p h) R := by
  obtain ⟨P, hP3, hP8, eP, eJ⟩ := qS_Pv p
  obtain ⟨a', b', e, za, za5, zb⟩ := qS_164 (hm := hm) (g := g) (nI P)
  obtain ⟨-, w5, w6, w7⟩ := qS_w (hm := hm) (g := g)
  refine ⟨_, by rw [eJ]; exact e, ?_⟩
  generalize zW0 hm g = w at w5 w6 w7 ⊢
  obtain ⟨s0, s1, s4, s9, s10, s11, s12, s13⟩ := qS_1 (p := p) (h := h)
  obtain ⟨u0, u1, u4, u9, u10, u11, u12, u13⟩ := qS_10 (p := p) (h := h)
  obtain ⟨x6, x7, x9, x15, x16, x18⟩ := qS_f (p := p) (h := h)
  obtain ⟨o53, o54, o1, o2, o56, o59, o77, o80⟩ := qS_o (p := p) (h := h)
  generalize zX0 p h = h at *
  have zb' : ∀ j, j < 40 → j ≠ 5 → b' j = nI 0 := fun j hj h5 => by rw [zb j (by omega)]; exact za j hj h5
  have zb5 : b' 5 = qN := by rw [zb 5 (by omega)]; exact za5
  have H : qi_core 0 P 0 0 0 0 0 0 0 0 0 h (va_up (va_up (va_up w.1 83 (upd (w.1 83) 2 (nI P))) 84 a') 85 b', w.2) := by
    refine ⟨⟨hP3, hP8, ?_, by omega⟩, ?_, ?_, ?_, ?_, ⟨?_, o56, by omega, fun j hj => by omega⟩, ⟨?_, ?_⟩, fun i hi => by omega, fun j _ => ⟨o53 j, o54 j⟩⟩
    · simp (disch := omega) only [qa_b, qa_lit, qa_neg1, qa_qN, nI_add, pk_mul, qa_ix, qa_cl, qa_ltT, qa_ltF, qa_eqT, qa_eqF, qa_nN, qa_Nn, qa_ltN, qa_Nlt, qa_NN, qa_ltNN, qa_sub, qa_dec, qa_dec0, qa_sub0, qa_incN, qa_31, qa_shr, qa_shl, qa_and1, va_up_self, qa_une, pk_us, pk_un, qa_up2, qa_upd2, Option.bind_some, if_true, if_false, and_true, true_and, and_self, qa_f1, qa_f2]
    · simp (disch := omega) only [qa_b, qa_lit, qa_neg1, qa_qN, nI_add, pk_mul, qa_ix, qa_cl, qa_ltT, qa_ltF, qa_eqT, qa_eqF, qa_nN, qa_Nn, qa_ltN, qa_Nlt, qa_NN, qa_ltNN, qa_sub, qa_dec, qa_dec0, qa_sub0, qa_incN, qa_31, qa_shr, qa_shl, qa_and1, va_up_self, qa_une, pk_us, pk_un, qa_up2, qa_upd2, Option.bind_some, if_true, if_false, and_true, true_and, and_self, qa_f1, qa_f2]
      exact qS_a za za5
    · simp (disch := omega) only [qa_b, qa_lit, qa_neg1, qa_qN, nI_add, pk_mul, qa_ix, qa_cl, qa_ltT, qa_ltF, qa_eqT, qa_eqF, qa_nN, qa_Nn, qa_ltN, qa_Nlt, qa_NN, qa_ltNN, qa_sub, qa_dec, qa_dec0, qa_sub0, qa_incN, qa_31, qa_shr, qa_shl, qa_and1, va_up_self, qa_une, pk_us, pk_un, qa_up2, qa_upd2, Option.bind_some, if_true, if_false, and_true, true_and, and_self, qa_f1, qa_f2]
      exact qS_a zb' zb5
    · simp (disch := omega) only [qa_b, qa_lit, qa_neg1, qa_qN, nI_add, pk_mul, qa_ix, qa_cl, qa_ltT, qa_ltF, qa_eqT, qa_eqF, qa_nN, qa_Nn, qa_ltN, qa_Nlt, qa_NN, qa_ltNN, qa_sub, qa_dec, qa_dec0, qa_sub0, qa_incN, qa_31, qa_shr, qa_shl, qa_and1, va_up_self, qa_une, pk_us, pk_un, qa_up2, qa_upd2, Option.bind_some, if_true, if_false, and_true, true_and, and_self, qa_f1, qa_f2]
      refine ⟨⟨s0.trans eP, s1, s4, s9.trans (za 2 (by omega) (by omega)).symm, s10.trans (za 3 (by omega) (by omega)).symm, s11, s12.trans za5.symm, s13⟩, fun p hp => by omega, fun f hf => by omega, fun f _ hf => ⟨x6 f, x7 f hf⟩, fun t f ht => by omega, fun t f ht => by omega, fun t f _ _ _ => x9 _⟩
    · simp (disch := omega) only [qa_b, qa_lit, qa_neg1, qa_qN, nI_add, pk_mul, qa_ix, qa_cl, qa_ltT, qa_ltF, qa_eqT, qa_eqF, qa_nN, qa_Nn, qa_ltN, qa_Nlt, qa_NN, qa_ltNN, qa_sub, qa_dec, qa_dec0, qa_sub0, qa_incN, qa_31, qa_shr, qa_shl, qa_and1, va_up_self, qa_une, pk_us, pk_un, qa_up2, qa_upd2, Option.bind_some, if_true, if_false, and_true, true_and, and_self, qa_f1, qa_f2]
      refine ⟨⟨u0.trans eP, u1, u4, u9.trans (zb' 2 (by omega) (by omega)).symm, u10.trans (zb' 3 (by omega) (by omega)).symm, u11, u12.trans zb5.symm, u13⟩, fun p hp => by omega, fun f hf => by omega, fun f _ hf => ⟨x15 f, x16 f hf⟩, fun t f ht => by omega, fun t f ht => by omega, fun t f _ _ _ => x18 _⟩
    · simp (disch := omega) only [qa_b, qa_lit, qa_neg1, qa_qN, nI_add, pk_mul, qa_ix, qa_cl, qa_ltT, qa_ltF, qa_eqT, qa_eqF, qa_nN, qa_Nn, qa_ltN, qa_Nlt, qa_NN, qa_ltNN, qa_sub, qa_dec, qa_dec0, qa_sub0, qa_incN, qa_31, qa_shr, qa_shl, qa_and1, va_up_self, qa_une, pk_us, pk_un, qa_up2, qa_upd2, Option.bind_some, if_true, if_false, and_true, true_and, and_self, qa_f1, qa_f2]
      exact w5
    · simp (disch := omega) only [qa_b, qa_lit, qa_neg1, qa_qN, nI_add, pk_mul, qa_ix, qa_cl, qa_ltT, qa_ltF, qa_eqT, qa_eqF, qa_nN, qa_Nn, qa_ltN, qa_Nlt, qa_NN, qa_ltNN, qa_sub, qa_dec, qa_dec0, qa_sub0, qa_incN, qa_31, qa_shr, qa_shl, qa_and1, va_up_self, qa_une, pk_us, pk_un, qa_up2, qa_upd2, Option.bind_some, if_true, if_false, and_true, true_and, and_self, qa_f1, qa_f2]
      exact o1.trans w6.symm
    · simp (disch := omega) only [qa_b, qa_lit, qa_neg1, qa_qN, nI_add, pk_mul, qa_ix, qa_cl, qa_ltT, qa_ltF, qa_eqT, qa_eqF, qa_nN, qa_Nn, qa_ltN, qa_Nlt, qa_NN, qa_ltNN, qa_sub, qa_dec, qa_dec0, qa_sub0, qa_incN, qa_31, qa_shr, qa_shl, qa_and1, va_up_self, qa_une, pk_us, pk_un, qa_up2, qa_upd2, Option.bind_some, if_true, if_false, and_true, true_and, and_self, qa_f1, qa_f2]
      exact o2.trans w7.symm
  exact ⟨P, 0, 0, 0, 0, 0, 0, 0, 0, 0, H, qi_cch_clr H ⟨o59, fun j _ => ⟨o77 j, o80 j⟩⟩⟩
end
/-- the heart: from the start the law's loop answers 1 -/
theorem qS_all {Xs : Nat × (Nat → Int32)} (hX : Xs.1 ≤ 385) (h hm : Nat → Nat → Int32) (g : Nat → Nat → Int64) : ∃ R q', zM_init_J142 (zP Xs) (zW0 hm g) = some R ∧ zW_law_L28 Xs am_N 1 (zX0 (zP Xs) h, R) = some (1, q') := by
  obtain ⟨R, e, I⟩ := qS_start (zP Xs) h hm g
  obtain ⟨q', e'⟩ := qJ_loop hX 64 am_N 0 (zX0 (zP Xs) h) R (by omega) (by decide) (by omega) (by omega) I
  exact ⟨R, q', e, e'⟩
