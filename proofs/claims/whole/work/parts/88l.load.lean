/-! THE HEART: search: the class loads the play -/
section
variable {pn fn bn st sk : Nat}
/-- a cell is loaded -/
def qd_c (h h' : Nat → Nat → Int32) (sk t f : Nat) (op : Int32) : Prop := h' 68 (t * 6 + f) = (if sk.testBit f then qN else h 8 (t * 6 + f)) ∧ h' 69 (t * 6 + f) = h 63 (t * 6 + f) &&& op ∧ h' 70 (t * 6 + f) = h 64 (t * 6 + f)
theorem qd_beats (lbn : bn ≤ 24) (hsk : sk < 64) {f : Nat} (hf : f < 6) (op : Int32) (K : Int32 → Int32 → Int32 → (Nat → Nat → Int32) → Option (Nat → Nat → Int32)) : ∀ (k n t : Nat) (h : Nat → Nat → Int32), t + k = bn → k < n → h 65 1 = nI bn → ∃ h', zS_load_L107 K n (nI st) (nI sk) (nI f) op (nI t) h = K (nI st) (nI sk) (nI (f + 1)) h' ∧ (∀ c, c ≠ 68 → c ≠ 69 → c ≠ 70 → h' c = h c) ∧ (∀ t', t ≤ t' → t' < bn → qd_c h h' sk t' f op) ∧ ∀ t' g, g < 6 → (g ≠ f ∨ t' < t) → h' 68 (t' * 6 + g) = h 68 (t' * 6 + g) ∧ h' 69 (t' * 6 + g) = h 69 (t' * 6 + g) ∧ h' 70 (t' * 6 + g) = h 70 (t' * 6 + g)
  | 0, n + 1, t, h, ht, _, e1 => by
    refine ⟨h, ?_, fun _ _ _ _ => rfl, fun t' a b => by omega, fun _ _ _ _ => ⟨rfl, rfl, rfl⟩⟩
    have : t = bn := by omega
    subst this
    simp (disch := omega) only [↓reduceIte, zS_load_L107, e1, qa_ltF, qa_lit, nI_add]
  | k + 1, n + 1, t, h, ht, hn, e1 => by
    generalize hv : va_up (va_up (va_up h 68 (upd (h 68) (t * 6 + f) (if sk.testBit f then qN else h 8 (t * 6 + f)))) 69 (upd (h 69) (t * 6 + f) (h 63 (t * 6 + f) &&& op))) 70 (upd (h 70) (t * 6 + f) (h 64 (t * 6 + f))) = v
    have v0 : ∀ c, c ≠ 68 → c ≠ 69 → c ≠ 70 → v c = h c := fun c a b d => by
      subst hv
      simp (disch := omega) only [↓reduceIte, ↓qa_b, qa_b, qa_lit, qa_neg1, qa_qN, nI_add, pk_mul, qa_ix, qa_cl, qa_ltT, qa_ltF, qa_eqT, qa_eqF, qa_nN, qa_Nn, qa_ltN, qa_Nlt, qa_NN, qa_ltNN, qa_sub, qa_dec, qa_dec0, qa_sub0, qa_incN, qa_31, qa_shr, qa_shl, qa_and1, va_up_self, qa_une, pk_us, pk_un, qa_up2, qa_upd2, Option.bind_some, if_true, if_false, and_true, true_and, and_self, qa_f1, qa_f2]
    have v1 : v 68 = upd (h 68) (t * 6 + f) (if sk.testBit f then qN else h 8 (t * 6 + f)) := by
      subst hv
      simp (disch := omega) only [↓reduceIte, ↓qa_b, qa_b, qa_lit, qa_neg1, qa_qN, nI_add, pk_mul, qa_ix, qa_cl, qa_ltT, qa_ltF, qa_eqT, qa_eqF, qa_nN, qa_Nn, qa_ltN, qa_Nlt, qa_NN, qa_ltNN, qa_sub, qa_dec, qa_dec0, qa_sub0, qa_incN, qa_31, qa_shr, qa_shl, qa_and1, va_up_self, qa_une, pk_us, pk_un, qa_up2, qa_upd2, Option.bind_some, if_true, if_false, and_true, true_and, and_self, qa_f1, qa_f2]
    have v2 : v 69 = upd (h 69) (t * 6 + f) (h 63 (t * 6 + f) &&& op) := by
      subst hv
      simp (disch := omega) only [↓reduceIte, ↓qa_b, qa_b, qa_lit, qa_neg1, qa_qN, nI_add, pk_mul, qa_ix, qa_cl, qa_ltT, qa_ltF, qa_eqT, qa_eqF, qa_nN, qa_Nn, qa_ltN, qa_Nlt, qa_NN, qa_ltNN, qa_sub, qa_dec, qa_dec0, qa_sub0, qa_incN, qa_31, qa_shr, qa_shl, qa_and1, va_up_self, qa_une, pk_us, pk_un, qa_up2, qa_upd2, Option.bind_some, if_true, if_false, and_true, true_and, and_self, qa_f1, qa_f2]
    have v3 : v 70 = upd (h 70) (t * 6 + f) (h 64 (t * 6 + f)) := by
      subst hv
      simp (disch := omega) only [↓reduceIte, ↓qa_b, qa_b, qa_lit, qa_neg1, qa_qN, nI_add, pk_mul, qa_ix, qa_cl, qa_ltT, qa_ltF, qa_eqT, qa_eqF, qa_nN, qa_Nn, qa_ltN, qa_Nlt, qa_NN, qa_ltNN, qa_sub, qa_dec, qa_dec0, qa_sub0, qa_incN, qa_31, qa_shr, qa_shl, qa_and1, va_up_self, qa_une, pk_us, pk_un, qa_up2, qa_upd2, Option.bind_some, if_true, if_false, and_true, true_and, and_self, qa_f1, qa_f2]
    obtain ⟨h', q1, q2, q3, q4⟩ := qd_beats lbn hsk hf op K k n (t + 1) v (by omega) (by omega) (by rw [v0 65 (by omega) (by omega) (by omega)]; exact e1)
    have ne : ∀ t' g, g < 6 → (g ≠ f ∨ t' < t) → t' * 6 + g ≠ t * 6 + f := fun t' g hg h => by omega
    refine ⟨h', ?_, fun c a b d => by rw [q2 c a b d, v0 c a b d], fun t' a b => ?_, fun t' g hg h => ?_⟩
    · rw [← q1]
      subst hv
      cases hb : sk.testBit f
      · simp (disch := omega) only [↓reduceIte, ↓qa_b, zS_load_L107, zS_load_J153, zL_fitting, zL_passing, e1, qa_ltT, qa_lit, pk_mul, nI_add, qa_31, qa_shr, qa_and1, qa_tb, hb, qa_ix, qa_cl, Option.bind_some, qa_une, Bool.false_eq_true]
      · simp (disch := omega) only [↓reduceIte, ↓qa_b, zS_load_L107, zS_load_J153, zL_fitting, zL_passing, e1, qa_ltT, qa_lit, qa_neg1, qa_qN, pk_mul, nI_add, qa_31, qa_shr, qa_and1, qa_tb, hb, qa_ix, qa_cl, Option.bind_some, qa_une, Bool.true_eq_false]
    · by_cases htt : t' = t
      · subst htt
        obtain ⟨r1, r2, r3⟩ := q4 t' f hf (Or.inr (by omega))
        unfold qd_c
        rw [r1, r2, r3, v1, v2, v3]
        simp (disch := omega) only [↓reduceIte, ↓qa_b, qa_b, qa_lit, qa_neg1, qa_qN, nI_add, pk_mul, qa_ix, qa_cl, qa_ltT, qa_ltF, qa_eqT, qa_eqF, qa_nN, qa_Nn, qa_ltN, qa_Nlt, qa_NN, qa_ltNN, qa_sub, qa_dec, qa_dec0, qa_sub0, qa_incN, qa_31, qa_shr, qa_shl, qa_and1, va_up_self, qa_une, pk_us, pk_un, qa_up2, qa_upd2, Option.bind_some, if_true, if_false, and_true, true_and, and_self, qa_f1, qa_f2]
      · have := q3 t' (by omega) b
        unfold qd_c at this ⊢
        rw [v0 8 (by omega) (by omega) (by omega), v0 63 (by omega) (by omega) (by omega), v0 64 (by omega) (by omega) (by omega)] at this
        exact this
    · obtain ⟨r1, r2, r3⟩ := q4 t' g hg (by omega)
      have := ne t' g hg h
      rw [r1, r2, r3, v1, v2, v3]
      simp (disch := omega) only [↓reduceIte, ↓qa_b, qa_b, qa_lit, qa_neg1, qa_qN, nI_add, pk_mul, qa_ix, qa_cl, qa_ltT, qa_ltF, qa_eqT, qa_eqF, qa_nN, qa_Nn, qa_ltN, qa_Nlt, qa_NN, qa_ltNN, qa_sub, qa_dec, qa_dec0, qa_sub0, qa_incN, qa_31, qa_shr, qa_shl, qa_and1, va_up_self, qa_une, pk_us, pk_un, qa_up2, qa_upd2, Option.bind_some, if_true, if_false, and_true, true_and, and_self, qa_f1, qa_f2]
end
