/-! THE HEART: the reader: over spaces to the next token -/
section
variable {tl : Nat} {b : Nat → Nat}
theorem qt_advL : ∀ (k m p : Nat) (h : Nat → Nat → Int32) (u : zHM), p + k = tl → k < m → qt_B tl b h u → h 56 2 = nI p → u.1 83 8 = nI p → ∃ h' u' sp nx T, zT_advance_L0 m h = some h' ∧ zM_nextToken_L0 m u = some u' ∧ qt_S tl b h' u' sp nx T ∧ p ≤ sp ∧ qt_fr h h' u u'
  | 0, m + 1, p, h, u, hp, _, B, e2, e8 => by
    obtain ⟨e1, e5, ht, eb⟩ := id B
    obtain ⟨h', u', nx, T, x1, x2, x3, x4⟩ := qt_adv1 B (show p ≤ tl by omega) e2 e8 (fun q => by omega) m
    refine ⟨h', u', p, nx, T, ?_, x2, x3, Nat.le_refl _, x4⟩
    rw [← x1]
    simp (disch := omega) only [↓reduceIte, zT_advance_L0, e1, e2, qa_ltF]
  | k + 1, m + 1, p, h, u, hp, hm, B, e2, e8 => by
    obtain ⟨e1, e5, ht, eb⟩ := id B
    obtain ⟨g1, g2, g3⟩ := eb p (by omega)
    have ba := qt_byteAt e5 ht (fun j hj => (eb j hj).2.1) (show p ≤ tl by omega)
    rw [if_pos (by omega)] at ba
    have B1 : ∀ f : Int32 → Option zHM, (zM_byteAt (u.1 83 8) u).bind f = f (nI (b p)) := fun f => by rw [e8, ba]; rfl
    have go : (b p = 32 ∨ b p = 10) → ∃ h' u' sp nx T, zT_advance_L0 (m + 1) h = some h' ∧ zM_nextToken_L0 (m + 1) u = some u' ∧ qt_S tl b h' u' sp nx T ∧ p ≤ sp ∧ qt_fr h h' u u' := fun q => by
      obtain ⟨h', u', sp, nx, T, x1, x2, x3, x4, x5⟩ := qt_advL k m (p + 1) (va_up h 56 (upd (h 56) 2 (nI (p + 1)))) ((va_up u.1 83 (upd (u.1 83) 8 (nI (p + 1))), u.2) : zHM) (by omega) (by omega) ⟨by simp (disch := omega) only [↓reduceIte, ↓qa_b, qa_b, qa_lit, qa_neg1, qa_qN, nI_add, pk_mul, qa_ix, qa_cl, qa_ltT, qa_ltF, qa_eqT, qa_eqF, qa_nN, qa_Nn, qa_ltN, qa_Nlt, qa_NN, qa_ltNN, qa_sub, qa_dec, qa_dec0, qa_sub0, qa_incN, qa_31, qa_shr, qa_shl, qa_and1, va_up_self, qa_une, pk_us, pk_un, qa_up2, qa_upd2, Option.bind_some, if_true, if_false, and_true, true_and, and_self, qa_f1, qa_f2]; exact e1, by simp (disch := omega) only [↓reduceIte, ↓qa_b, qa_b, qa_lit, qa_neg1, qa_qN, nI_add, pk_mul, qa_ix, qa_cl, qa_ltT, qa_ltF, qa_eqT, qa_eqF, qa_nN, qa_Nn, qa_ltN, qa_Nlt, qa_NN, qa_ltNN, qa_sub, qa_dec, qa_dec0, qa_sub0, qa_incN, qa_31, qa_shr, qa_shl, qa_and1, va_up_self, qa_une, pk_us, pk_un, qa_up2, qa_upd2, Option.bind_some, if_true, if_false, and_true, true_and, and_self, qa_f1, qa_f2]; exact e5, ht, fun j hj => ⟨by rw [qa_une _ _ (by omega)]; exact (eb j hj).1, by simp (disch := omega) only [↓reduceIte, ↓qa_b, qa_b, qa_lit, qa_neg1, qa_qN, nI_add, pk_mul, qa_ix, qa_cl, qa_ltT, qa_ltF, qa_eqT, qa_eqF, qa_nN, qa_Nn, qa_ltN, qa_Nlt, qa_NN, qa_ltNN, qa_sub, qa_dec, qa_dec0, qa_sub0, qa_incN, qa_31, qa_shr, qa_shl, qa_and1, va_up_self, qa_une, pk_us, pk_un, qa_up2, qa_upd2, Option.bind_some, if_true, if_false, and_true, true_and, and_self, qa_f1, qa_f2]; exact (eb j hj).2⟩⟩ (by simp (disch := omega) only [↓reduceIte, ↓qa_b, qa_b, qa_lit, qa_neg1, qa_qN, nI_add, pk_mul, qa_ix, qa_cl, qa_ltT, qa_ltF, qa_eqT, qa_eqF, qa_nN, qa_Nn, qa_ltN, qa_Nlt, qa_NN, qa_ltNN, qa_sub, qa_dec, qa_dec0, qa_sub0, qa_incN, qa_31, qa_shr, qa_shl, qa_and1, va_up_self, qa_une, pk_us, pk_un, qa_up2, qa_upd2, Option.bind_some, if_true, if_false, and_true, true_and, and_self, qa_f1, qa_f2]) (by simp (disch := omega) only [↓reduceIte, ↓qa_b, qa_b, qa_lit, qa_neg1, qa_qN, nI_add, pk_mul, qa_ix, qa_cl, qa_ltT, qa_ltF, qa_eqT, qa_eqF, qa_nN, qa_Nn, qa_ltN, qa_Nlt, qa_NN, qa_ltNN, qa_sub, qa_dec, qa_dec0, qa_sub0, qa_incN, qa_31, qa_shr, qa_shl, qa_and1, va_up_self, qa_une, pk_us, pk_un, qa_up2, qa_upd2, Option.bind_some, if_true, if_false, and_true, true_and, and_self, qa_f1, qa_f2])
      refine ⟨h', u', sp, nx, T, ?_, ?_, x3, by omega, fun c hc => by rw [x5.1 c hc, qa_une _ _ hc], fun c hc => by rw [x5.2.1 c hc]; simp (disch := omega) only [↓reduceIte, ↓qa_b, qa_b, qa_lit, qa_neg1, qa_qN, nI_add, pk_mul, qa_ix, qa_cl, qa_ltT, qa_ltF, qa_eqT, qa_eqF, qa_nN, qa_Nn, qa_ltN, qa_Nlt, qa_NN, qa_ltNN, qa_sub, qa_dec, qa_dec0, qa_sub0, qa_incN, qa_31, qa_shr, qa_shl, qa_and1, va_up_self, qa_une, pk_us, pk_un, qa_up2, qa_upd2, Option.bind_some, if_true, if_false, and_true, true_and, and_self, qa_f1, qa_f2], fun j j1 j2 j3 j4 => by rw [x5.2.2 j j1 j2 j3 j4]; simp (disch := omega) only [↓reduceIte, ↓qa_b, qa_b, qa_lit, qa_neg1, qa_qN, nI_add, pk_mul, qa_ix, qa_cl, qa_ltT, qa_ltF, qa_eqT, qa_eqF, qa_nN, qa_Nn, qa_ltN, qa_Nlt, qa_NN, qa_ltNN, qa_sub, qa_dec, qa_dec0, qa_sub0, qa_incN, qa_31, qa_shr, qa_shl, qa_and1, va_up_self, qa_une, pk_us, pk_un, qa_up2, qa_upd2, Option.bind_some, if_true, if_false, and_true, true_and, and_self, qa_f1, qa_f2]⟩
      · rw [← x1]
        rcases q with q | q
        · rw [q] at g1
          simp (disch := omega) only [↓reduceIte, ↓qa_b, zT_advance_L0.eq_2, zT_advance_J39, e1, e2, qa_ltT, qa_ix, qa_cl, g1, qa_lit, nI_add]
        · rw [q] at g1
          simp (disch := omega) only [↓reduceIte, ↓qa_b, zT_advance_L0.eq_2, zT_advance_J39, e1, e2, qa_ltT, qa_ix, qa_cl, g1, qa_lit, nI_add, qa_eqF]
      · rw [← x2]
        rcases q with q | q
        · rw [q] at B1
          simp (disch := omega) only [↓reduceIte, ↓qa_b, ↓B1, zM_nextToken_L0.eq_2, zM_nextToken_J26, e8, qa_lit, nI_add]
        · rw [q] at B1
          simp (disch := omega) only [↓reduceIte, ↓qa_b, ↓B1, zM_nextToken_L0.eq_2, zM_nextToken_J26, e8, qa_lit, nI_add, qa_eqF]
    by_cases q : b p = 32 ∨ b p = 10
    · exact go q
    · obtain ⟨h', u', nx, T, x1, x2, x3, x4⟩ := qt_adv1 B (show p ≤ tl by omega) e2 e8 (fun _ => ⟨fun z => q (Or.inl z), fun z => q (Or.inr z)⟩) m
      refine ⟨h', u', p, nx, T, ?_, x2, x3, Nat.le_refl _, x4⟩
      rw [← x1]
      have q1 : b p ≠ 32 := fun z => q (Or.inl z)
      have q2 : b p ≠ 10 := fun z => q (Or.inr z)
      simp (disch := omega) only [↓reduceIte, zT_advance_L0, e1, e2, qa_ltT, qa_ix, qa_cl, g1, qa_lit, qa_eqF]
theorem qt_adv {h : Nat → Nat → Int32} {u : zHM} {p : Nat} (B : qt_B tl b h u) (hp : p ≤ tl) (e2 : h 56 2 = nI p) (e8 : u.1 83 8 = nI p) : ∃ h' u' sp nx T, zT_advance h = some h' ∧ zM_nextToken u = some u' ∧ qt_S tl b h' u' sp nx T ∧ p ≤ sp ∧ qt_fr h h' u u' :=
  qt_advL (tl - p) am_N p h u (by omega) (Nat.lt_of_le_of_lt (show tl - p ≤ 300 by have := B.2.2.1; omega) (by decide)) B e2 e8
/-- behind a token -/
theorem qt_go {h : Nat → Nat → Int32} {u : zHM} {sp nx T : Nat} (S : qt_S tl b h u sp nx T) : ∃ h' u' sp' nx' T', zT_advance h = some h' ∧ zM_nextToken u = some u' ∧ qt_S tl b h' u' sp' nx' T' ∧ nx ≤ sp' ∧ qt_fr h h' u u' := qt_adv S.1 S.2.2.2.2.2.2.2.1 S.2.1.1 S.2.1.2
/-- a token looks at few cells -/
theorem qt_S_f {h h' : Nat → Nat → Int32} {u u' : zHM} {sp nx T : Nat} (e1 : h' 56 = h 56 ∧ h' 57 = h 57) (e2 : u'.1 87 = u.1 87) (e3 : ∀ j, j = 5 ∨ j = 8 ∨ j = 9 ∨ j = 10 ∨ j = 11 → u'.1 83 j = u.1 83 j) (e4 : u'.2 83 12 = u.2 83 12) (S : qt_S tl b h u sp nx T) : qt_S tl b h' u' sp nx T := by
  unfold qt_S qt_B at S ⊢
  rw [e1.1, e1.2, e2, e3 5 (by omega), e3 8 (by omega), e3 9 (by omega), e3 10 (by omega), e3 11 (by omega), e4]
  exact S
end
