/-! THE HEART: the reader: small steps of the reference -/
def qg_M (m : Nat) (u : zHM) (ds : List (Nat × Nat)) (pl : List Nat) (op : Nat) (bo : Bool) : Prop := (u.1 83 13 = nI m ∧ u.1 83 15 = nI ds.length ∧ qg_dr (u.1 86) m ds) ∧ (u.1 83 18 = nI pl.length ∧ qg_k (u.1 88) pl) ∧ u.1 83 19 = nI op ∧ u.1 83 20 = qs_b bo
def qg_fu (m : Nat) (u u' : zHM) : Prop := (∀ c, c ≠ 83 → c ≠ 86 → c ≠ 88 → u'.1 c = u.1 c) ∧ (∀ j, j ≠ 15 → j ≠ 18 → j ≠ 19 → j ≠ 20 → u'.1 83 j = u.1 83 j) ∧ (∀ j, j < m + 185 ∨ m + 785 ≤ j → u'.1 86 j = u.1 86 j) ∧ u'.2 = u.2
theorem qg_fu.rf (m : Nat) (u : zHM) : qg_fu m u u := ⟨fun _ _ _ _ => rfl, fun _ _ _ _ _ => rfl, fun _ _ => rfl, rfl⟩
theorem qg_fu.tr {m : Nat} {u v w : zHM} (a : qg_fu m u v) (b : qg_fu m v w) : qg_fu m u w := ⟨fun c p q r => (b.1 c p q r).trans (a.1 c p q r), fun j p q r s => (b.2.1 j p q r s).trans (a.2.1 j p q r s), fun j p => (b.2.2.1 j p).trans (a.2.2.1 j p), b.2.2.2.trans a.2.2.2⟩
section
variable {m : Nat} {u : zHM} {ds : List (Nat × Nat)} {pl : List Nat} {op : Nat} {bo : Bool}
theorem qg_emitM (hm : m ≤ 2370) (M : qg_M m u ds pl op bo) (hd : ds.length < 300) (q : Nat × Nat) : ∃ u', zM_emit (nI q.1) (nI q.2) u = some u' ∧ qg_M m u' (q :: ds) pl op bo ∧ qg_fu m u u' := by
  obtain ⟨⟨c1, c2, c3⟩, ⟨c4, c5⟩, c6, c7⟩ := M
  refine ⟨((va_up (va_up u.1 86 (upd (upd (u.1 86) (m + 185 + 2 * ds.length) (nI q.1)) (m + 185 + 2 * ds.length + 1) (nI q.2))) 83 (upd (u.1 83) 15 (nI (ds.length + 1))), u.2) : zHM), ?_, ⟨⟨by simp (disch := omega) only [↓reduceIte, ↓qa_b, qa_b, qa_lit, qa_neg1, qa_qN, nI_add, pk_mul, qa_ix, qa_cl, qa_ltT, qa_ltF, qa_eqT, qa_eqF, qa_nN, qa_Nn, qa_ltN, qa_Nlt, qa_NN, qa_ltNN, qa_sub, qa_dec, qa_dec0, qa_sub0, qa_incN, qa_31, qa_shr, qa_shl, qa_and1, va_up_self, qa_une, pk_us, pk_un, qa_up2, qa_upd2, Option.bind_some, if_true, if_false, and_true, true_and, and_self, qa_f1, qa_f2]; exact c1, by simp (disch := omega) only [↓reduceIte, ↓qa_b, qa_b, qa_lit, qa_neg1, qa_qN, nI_add, pk_mul, qa_ix, qa_cl, qa_ltT, qa_ltF, qa_eqT, qa_eqF, qa_nN, qa_Nn, qa_ltN, qa_Nlt, qa_NN, qa_ltNN, qa_sub, qa_dec, qa_dec0, qa_sub0, qa_incN, qa_31, qa_shr, qa_shl, qa_and1, va_up_self, qa_une, pk_us, pk_un, qa_up2, qa_upd2, Option.bind_some, if_true, if_false, and_true, true_and, and_self, qa_f1, qa_f2]; rfl, ?_⟩, ⟨by simp (disch := omega) only [↓reduceIte, ↓qa_b, qa_b, qa_lit, qa_neg1, qa_qN, nI_add, pk_mul, qa_ix, qa_cl, qa_ltT, qa_ltF, qa_eqT, qa_eqF, qa_nN, qa_Nn, qa_ltN, qa_Nlt, qa_NN, qa_ltNN, qa_sub, qa_dec, qa_dec0, qa_sub0, qa_incN, qa_31, qa_shr, qa_shl, qa_and1, va_up_self, qa_une, pk_us, pk_un, qa_up2, qa_upd2, Option.bind_some, if_true, if_false, and_true, true_and, and_self, qa_f1, qa_f2]; exact c4, by simp (disch := omega) only [↓reduceIte, ↓qa_b, qa_b, qa_lit, qa_neg1, qa_qN, nI_add, pk_mul, qa_ix, qa_cl, qa_ltT, qa_ltF, qa_eqT, qa_eqF, qa_nN, qa_Nn, qa_ltN, qa_Nlt, qa_NN, qa_ltNN, qa_sub, qa_dec, qa_dec0, qa_sub0, qa_incN, qa_31, qa_shr, qa_shl, qa_and1, va_up_self, qa_une, pk_us, pk_un, qa_up2, qa_upd2, Option.bind_some, if_true, if_false, and_true, true_and, and_self, qa_f1, qa_f2]; exact c5⟩, by simp (disch := omega) only [↓reduceIte, ↓qa_b, qa_b, qa_lit, qa_neg1, qa_qN, nI_add, pk_mul, qa_ix, qa_cl, qa_ltT, qa_ltF, qa_eqT, qa_eqF, qa_nN, qa_Nn, qa_ltN, qa_Nlt, qa_NN, qa_ltNN, qa_sub, qa_dec, qa_dec0, qa_sub0, qa_incN, qa_31, qa_shr, qa_shl, qa_and1, va_up_self, qa_une, pk_us, pk_un, qa_up2, qa_upd2, Option.bind_some, if_true, if_false, and_true, true_and, and_self, qa_f1, qa_f2]; exact c6, by simp (disch := omega) only [↓reduceIte, ↓qa_b, qa_b, qa_lit, qa_neg1, qa_qN, nI_add, pk_mul, qa_ix, qa_cl, qa_ltT, qa_ltF, qa_eqT, qa_eqF, qa_nN, qa_Nn, qa_ltN, qa_Nlt, qa_NN, qa_ltNN, qa_sub, qa_dec, qa_dec0, qa_sub0, qa_incN, qa_31, qa_shr, qa_shl, qa_and1, va_up_self, qa_une, pk_us, pk_un, qa_up2, qa_upd2, Option.bind_some, if_true, if_false, and_true, true_and, and_self, qa_f1, qa_f2]; exact c7⟩, fun c p1 p2 p3 => by simp (disch := omega) only [↓reduceIte, ↓qa_b, qa_b, qa_lit, qa_neg1, qa_qN, nI_add, pk_mul, qa_ix, qa_cl, qa_ltT, qa_ltF, qa_eqT, qa_eqF, qa_nN, qa_Nn, qa_ltN, qa_Nlt, qa_NN, qa_ltNN, qa_sub, qa_dec, qa_dec0, qa_sub0, qa_incN, qa_31, qa_shr, qa_shl, qa_and1, va_up_self, qa_une, pk_us, pk_un, qa_up2, qa_upd2, Option.bind_some, if_true, if_false, and_true, true_and, and_self, qa_f1, qa_f2], fun j p1 p2 p3 p4 => by simp (disch := omega) only [↓reduceIte, ↓qa_b, qa_b, qa_lit, qa_neg1, qa_qN, nI_add, pk_mul, qa_ix, qa_cl, qa_ltT, qa_ltF, qa_eqT, qa_eqF, qa_nN, qa_Nn, qa_ltN, qa_Nlt, qa_NN, qa_ltNN, qa_sub, qa_dec, qa_dec0, qa_sub0, qa_incN, qa_31, qa_shr, qa_shl, qa_and1, va_up_self, qa_une, pk_us, pk_un, qa_up2, qa_upd2, Option.bind_some, if_true, if_false, and_true, true_and, and_self, qa_f1, qa_f2], fun j hj => ?_, rfl⟩
  · simp (disch := omega) only [↓reduceIte, ↓qa_b, zM_emit, c1, c2, qa_lit, pk_mul, nI_add, qa_ix, qa_cl, qa_une, va_up_self, qa_up2]
  · simp (disch := omega) only [↓reduceIte, ↓qa_b, qa_b, qa_lit, qa_neg1, qa_qN, nI_add, pk_mul, qa_ix, qa_cl, qa_ltT, qa_ltF, qa_eqT, qa_eqF, qa_nN, qa_Nn, qa_ltN, qa_Nlt, qa_NN, qa_ltNN, qa_sub, qa_dec, qa_dec0, qa_sub0, qa_incN, qa_31, qa_shr, qa_shl, qa_and1, va_up_self, qa_une, pk_us, pk_un, qa_up2, qa_upd2, Option.bind_some, if_true, if_false, and_true, true_and, and_self, qa_f1, qa_f2]
    refine ⟨?_, ?_, ?_⟩
    · rw [pk_un (by omega), pk_us]
    · rw [pk_us]
    · exact qg_dr_u ds (by omega) (qg_dr_u ds (by omega) c3)
  · simp (disch := omega) only [↓reduceIte, ↓qa_b, qa_b, qa_lit, qa_neg1, qa_qN, nI_add, pk_mul, qa_ix, qa_cl, qa_ltT, qa_ltF, qa_eqT, qa_eqF, qa_nN, qa_Nn, qa_ltN, qa_Nlt, qa_NN, qa_ltNN, qa_sub, qa_dec, qa_dec0, qa_sub0, qa_incN, qa_31, qa_shr, qa_shl, qa_and1, va_up_self, qa_une, pk_us, pk_un, qa_up2, qa_upd2, Option.bind_some, if_true, if_false, and_true, true_and, and_self, qa_f1, qa_f2]
theorem qg_pushM (M : qg_M m u ds pl op bo) (hp : pl.length < 160) (e : Nat) : ∃ u', zM_push (nI e) u = some u' ∧ qg_M m u' ds (e :: pl) op bo ∧ qg_fu m u u' := by
  obtain ⟨⟨c1, c2, c3⟩, ⟨c4, c5⟩, c6, c7⟩ := M
  refine ⟨((va_up (va_up u.1 88 (upd (u.1 88) pl.length (nI e))) 83 (upd (u.1 83) 18 (nI (pl.length + 1))), u.2) : zHM), ?_, ⟨⟨by simp (disch := omega) only [↓reduceIte, ↓qa_b, qa_b, qa_lit, qa_neg1, qa_qN, nI_add, pk_mul, qa_ix, qa_cl, qa_ltT, qa_ltF, qa_eqT, qa_eqF, qa_nN, qa_Nn, qa_ltN, qa_Nlt, qa_NN, qa_ltNN, qa_sub, qa_dec, qa_dec0, qa_sub0, qa_incN, qa_31, qa_shr, qa_shl, qa_and1, va_up_self, qa_une, pk_us, pk_un, qa_up2, qa_upd2, Option.bind_some, if_true, if_false, and_true, true_and, and_self, qa_f1, qa_f2]; exact c1, by simp (disch := omega) only [↓reduceIte, ↓qa_b, qa_b, qa_lit, qa_neg1, qa_qN, nI_add, pk_mul, qa_ix, qa_cl, qa_ltT, qa_ltF, qa_eqT, qa_eqF, qa_nN, qa_Nn, qa_ltN, qa_Nlt, qa_NN, qa_ltNN, qa_sub, qa_dec, qa_dec0, qa_sub0, qa_incN, qa_31, qa_shr, qa_shl, qa_and1, va_up_self, qa_une, pk_us, pk_un, qa_up2, qa_upd2, Option.bind_some, if_true, if_false, and_true, true_and, and_self, qa_f1, qa_f2]; exact c2, by simp (disch := omega) only [↓reduceIte, ↓qa_b, qa_b, qa_lit, qa_neg1, qa_qN, nI_add, pk_mul, qa_ix, qa_cl, qa_ltT, qa_ltF, qa_eqT, qa_eqF, qa_nN, qa_Nn, qa_ltN, qa_Nlt, qa_NN, qa_ltNN, qa_sub, qa_dec, qa_dec0, qa_sub0, qa_incN, qa_31, qa_shr, qa_shl, qa_and1, va_up_self, qa_une, pk_us, pk_un, qa_up2, qa_upd2, Option.bind_some, if_true, if_false, and_true, true_and, and_self, qa_f1, qa_f2]; exact c3⟩, ⟨by simp (disch := omega) only [↓reduceIte, ↓qa_b, qa_b, qa_lit, qa_neg1, qa_qN, nI_add, pk_mul, qa_ix, qa_cl, qa_ltT, qa_ltF, qa_eqT, qa_eqF, qa_nN, qa_Nn, qa_ltN, qa_Nlt, qa_NN, qa_ltNN, qa_sub, qa_dec, qa_dec0, qa_sub0, qa_incN, qa_31, qa_shr, qa_shl, qa_and1, va_up_self, qa_une, pk_us, pk_un, qa_up2, qa_upd2, Option.bind_some, if_true, if_false, and_true, true_and, and_self, qa_f1, qa_f2]; rfl, ?_⟩, by simp (disch := omega) only [↓reduceIte, ↓qa_b, qa_b, qa_lit, qa_neg1, qa_qN, nI_add, pk_mul, qa_ix, qa_cl, qa_ltT, qa_ltF, qa_eqT, qa_eqF, qa_nN, qa_Nn, qa_ltN, qa_Nlt, qa_NN, qa_ltNN, qa_sub, qa_dec, qa_dec0, qa_sub0, qa_incN, qa_31, qa_shr, qa_shl, qa_and1, va_up_self, qa_une, pk_us, pk_un, qa_up2, qa_upd2, Option.bind_some, if_true, if_false, and_true, true_and, and_self, qa_f1, qa_f2]; exact c6, by simp (disch := omega) only [↓reduceIte, ↓qa_b, qa_b, qa_lit, qa_neg1, qa_qN, nI_add, pk_mul, qa_ix, qa_cl, qa_ltT, qa_ltF, qa_eqT, qa_eqF, qa_nN, qa_Nn, qa_ltN, qa_Nlt, qa_NN, qa_ltNN, qa_sub, qa_dec, qa_dec0, qa_sub0, qa_incN, qa_31, qa_shr, qa_shl, qa_and1, va_up_self, qa_une, pk_us, pk_un, qa_up2, qa_upd2, Option.bind_some, if_true, if_false, and_true, true_and, and_self, qa_f1, qa_f2]; exact c7⟩, fun c p1 p2 p3 => by simp (disch := omega) only [↓reduceIte, ↓qa_b, qa_b, qa_lit, qa_neg1, qa_qN, nI_add, pk_mul, qa_ix, qa_cl, qa_ltT, qa_ltF, qa_eqT, qa_eqF, qa_nN, qa_Nn, qa_ltN, qa_Nlt, qa_NN, qa_ltNN, qa_sub, qa_dec, qa_dec0, qa_sub0, qa_incN, qa_31, qa_shr, qa_shl, qa_and1, va_up_self, qa_une, pk_us, pk_un, qa_up2, qa_upd2, Option.bind_some, if_true, if_false, and_true, true_and, and_self, qa_f1, qa_f2], fun j p1 p2 p3 p4 => by simp (disch := omega) only [↓reduceIte, ↓qa_b, qa_b, qa_lit, qa_neg1, qa_qN, nI_add, pk_mul, qa_ix, qa_cl, qa_ltT, qa_ltF, qa_eqT, qa_eqF, qa_nN, qa_Nn, qa_ltN, qa_Nlt, qa_NN, qa_ltNN, qa_sub, qa_dec, qa_dec0, qa_sub0, qa_incN, qa_31, qa_shr, qa_shl, qa_and1, va_up_self, qa_une, pk_us, pk_un, qa_up2, qa_upd2, Option.bind_some, if_true, if_false, and_true, true_and, and_self, qa_f1, qa_f2], fun j hj => by simp (disch := omega) only [↓reduceIte, ↓qa_b, qa_b, qa_lit, qa_neg1, qa_qN, nI_add, pk_mul, qa_ix, qa_cl, qa_ltT, qa_ltF, qa_eqT, qa_eqF, qa_nN, qa_Nn, qa_ltN, qa_Nlt, qa_NN, qa_ltNN, qa_sub, qa_dec, qa_dec0, qa_sub0, qa_incN, qa_31, qa_shr, qa_shl, qa_and1, va_up_self, qa_une, pk_us, pk_un, qa_up2, qa_upd2, Option.bind_some, if_true, if_false, and_true, true_and, and_self, qa_f1, qa_f2], rfl⟩
  · simp (disch := omega) only [↓reduceIte, ↓qa_b, zM_push, c4, qa_ix, qa_cl, qa_une, qa_lit, nI_add]
  · simp (disch := omega) only [↓reduceIte, ↓qa_b, qa_b, qa_lit, qa_neg1, qa_qN, nI_add, pk_mul, qa_ix, qa_cl, qa_ltT, qa_ltF, qa_eqT, qa_eqF, qa_nN, qa_Nn, qa_ltN, qa_Nlt, qa_NN, qa_ltNN, qa_sub, qa_dec, qa_dec0, qa_sub0, qa_incN, qa_31, qa_shr, qa_shl, qa_and1, va_up_self, qa_une, pk_us, pk_un, qa_up2, qa_upd2, Option.bind_some, if_true, if_false, and_true, true_and, and_self, qa_f1, qa_f2]
    exact ⟨by rw [pk_us], qg_k_u pl (Nat.le_refl _) c5⟩
/-- fields of the reference -/
theorem qg_fieldM (M : qg_M m u ds pl op bo) {g : Nat → Int32} {pl' : List Nat} {op' : Nat} {bo' : Bool} (g18 : g 18 = nI pl'.length) (gk : qg_k (u.1 88) pl') (g19 : g 19 = nI op') (g20 : g 20 = qs_b bo') (ge : ∀ j, j ≠ 18 → j ≠ 19 → j ≠ 20 → g j = u.1 83 j) : qg_M m ((va_up u.1 83 g, u.2) : zHM) ds pl' op' bo' ∧ qg_fu m u ((va_up u.1 83 g, u.2) : zHM) := by
  obtain ⟨⟨c1, c2, c3⟩, ⟨c4, c5⟩, c6, c7⟩ := M
  refine ⟨⟨⟨?_, ?_, ?_⟩, ⟨?_, ?_⟩, ?_, ?_⟩, fun c p1 p2 p3 => by simp (disch := omega) only [↓reduceIte, ↓qa_b, qa_b, qa_lit, qa_neg1, qa_qN, nI_add, pk_mul, qa_ix, qa_cl, qa_ltT, qa_ltF, qa_eqT, qa_eqF, qa_nN, qa_Nn, qa_ltN, qa_Nlt, qa_NN, qa_ltNN, qa_sub, qa_dec, qa_dec0, qa_sub0, qa_incN, qa_31, qa_shr, qa_shl, qa_and1, va_up_self, qa_une, pk_us, pk_un, qa_up2, qa_upd2, Option.bind_some, if_true, if_false, and_true, true_and, and_self, qa_f1, qa_f2], fun j p1 p2 p3 p4 => ?_, fun j hj => by simp (disch := omega) only [↓reduceIte, ↓qa_b, qa_b, qa_lit, qa_neg1, qa_qN, nI_add, pk_mul, qa_ix, qa_cl, qa_ltT, qa_ltF, qa_eqT, qa_eqF, qa_nN, qa_Nn, qa_ltN, qa_Nlt, qa_NN, qa_ltNN, qa_sub, qa_dec, qa_dec0, qa_sub0, qa_incN, qa_31, qa_shr, qa_shl, qa_and1, va_up_self, qa_une, pk_us, pk_un, qa_up2, qa_upd2, Option.bind_some, if_true, if_false, and_true, true_and, and_self, qa_f1, qa_f2], rfl⟩
  · simp (disch := omega) only [↓reduceIte, ↓qa_b, qa_b, qa_lit, qa_neg1, qa_qN, nI_add, pk_mul, qa_ix, qa_cl, qa_ltT, qa_ltF, qa_eqT, qa_eqF, qa_nN, qa_Nn, qa_ltN, qa_Nlt, qa_NN, qa_ltNN, qa_sub, qa_dec, qa_dec0, qa_sub0, qa_incN, qa_31, qa_shr, qa_shl, qa_and1, va_up_self, qa_une, pk_us, pk_un, qa_up2, qa_upd2, Option.bind_some, if_true, if_false, and_true, true_and, and_self, qa_f1, qa_f2]; rw [ge 13 (by omega) (by omega) (by omega)]; exact c1
  · simp (disch := omega) only [↓reduceIte, ↓qa_b, qa_b, qa_lit, qa_neg1, qa_qN, nI_add, pk_mul, qa_ix, qa_cl, qa_ltT, qa_ltF, qa_eqT, qa_eqF, qa_nN, qa_Nn, qa_ltN, qa_Nlt, qa_NN, qa_ltNN, qa_sub, qa_dec, qa_dec0, qa_sub0, qa_incN, qa_31, qa_shr, qa_shl, qa_and1, va_up_self, qa_une, pk_us, pk_un, qa_up2, qa_upd2, Option.bind_some, if_true, if_false, and_true, true_and, and_self, qa_f1, qa_f2]; rw [ge 15 (by omega) (by omega) (by omega)]; exact c2
  · simp (disch := omega) only [↓reduceIte, ↓qa_b, qa_b, qa_lit, qa_neg1, qa_qN, nI_add, pk_mul, qa_ix, qa_cl, qa_ltT, qa_ltF, qa_eqT, qa_eqF, qa_nN, qa_Nn, qa_ltN, qa_Nlt, qa_NN, qa_ltNN, qa_sub, qa_dec, qa_dec0, qa_sub0, qa_incN, qa_31, qa_shr, qa_shl, qa_and1, va_up_self, qa_une, pk_us, pk_un, qa_up2, qa_upd2, Option.bind_some, if_true, if_false, and_true, true_and, and_self, qa_f1, qa_f2]; exact c3
  · simp (disch := omega) only [↓reduceIte, ↓qa_b, qa_b, qa_lit, qa_neg1, qa_qN, nI_add, pk_mul, qa_ix, qa_cl, qa_ltT, qa_ltF, qa_eqT, qa_eqF, qa_nN, qa_Nn, qa_ltN, qa_Nlt, qa_NN, qa_ltNN, qa_sub, qa_dec, qa_dec0, qa_sub0, qa_incN, qa_31, qa_shr, qa_shl, qa_and1, va_up_self, qa_une, pk_us, pk_un, qa_up2, qa_upd2, Option.bind_some, if_true, if_false, and_true, true_and, and_self, qa_f1, qa_f2]; exact g18
  · simp (disch := omega) only [↓reduceIte, ↓qa_b, qa_b, qa_lit, qa_neg1, qa_qN, nI_add, pk_mul, qa_ix, qa_cl, qa_ltT, qa_ltF, qa_eqT, qa_eqF, qa_nN, qa_Nn, qa_ltN, qa_Nlt, qa_NN, qa_ltNN, qa_sub, qa_dec, qa_dec0, qa_sub0, qa_incN, qa_31, qa_shr, qa_shl, qa_and1, va_up_self, qa_une, pk_us, pk_un, qa_up2, qa_upd2, Option.bind_some, if_true, if_false, and_true, true_and, and_self, qa_f1, qa_f2]; exact gk
  · simp (disch := omega) only [↓reduceIte, ↓qa_b, qa_b, qa_lit, qa_neg1, qa_qN, nI_add, pk_mul, qa_ix, qa_cl, qa_ltT, qa_ltF, qa_eqT, qa_eqF, qa_nN, qa_Nn, qa_ltN, qa_Nlt, qa_NN, qa_ltNN, qa_sub, qa_dec, qa_dec0, qa_sub0, qa_incN, qa_31, qa_shr, qa_shl, qa_and1, va_up_self, qa_une, pk_us, pk_un, qa_up2, qa_upd2, Option.bind_some, if_true, if_false, and_true, true_and, and_self, qa_f1, qa_f2]; exact g19
  · simp (disch := omega) only [↓reduceIte, ↓qa_b, qa_b, qa_lit, qa_neg1, qa_qN, nI_add, pk_mul, qa_ix, qa_cl, qa_ltT, qa_ltF, qa_eqT, qa_eqF, qa_nN, qa_Nn, qa_ltN, qa_Nlt, qa_NN, qa_ltNN, qa_sub, qa_dec, qa_dec0, qa_sub0, qa_incN, qa_31, qa_shr, qa_shl, qa_and1, va_up_self, qa_une, pk_us, pk_un, qa_up2, qa_upd2, Option.bind_some, if_true, if_false, and_true, true_and, and_self, qa_f1, qa_f2]; exact g20
  · simp (disch := omega) only [↓reduceIte, ↓qa_b, qa_b, qa_lit, qa_neg1, qa_qN, nI_add, pk_mul, qa_ix, qa_cl, qa_ltT, qa_ltF, qa_eqT, qa_eqF, qa_nN, qa_Nn, qa_ltN, qa_Nlt, qa_NN, qa_ltNN, qa_sub, qa_dec, qa_dec0, qa_sub0, qa_incN, qa_31, qa_shr, qa_shl, qa_and1, va_up_self, qa_une, pk_us, pk_un, qa_up2, qa_upd2, Option.bind_some, if_true, if_false, and_true, true_and, and_self, qa_f1, qa_f2]; exact ge j p2 p3 p4
end
/-- those from v on come off the pile, down to a bracket -/
def qg_st (v : Nat) : List Nat → List (Nat × Nat) → List Nat × List (Nat × Nat)
  | [], ds => ([], ds)
  | e :: l, ds => if e < 40 ∧ v ≤ e then qg_st v l ((e, 0) :: ds) else (e :: l, ds)
/-- minus signs come off -/
def qg_wh : List Nat → List (Nat × Nat) → Nat → List Nat × List (Nat × Nat) × Nat
  | [], ds, op => ([], ds, op)
  | e :: l, ds, op => if e = 2 then qg_wh l ((2, 0) :: ds) (op - 1) else (e :: l, ds, op)
section
variable {m op : Nat} {bo : Bool}
theorem qg_setM (hm : m ≤ 2370) {v : Nat} (hv : v ≤ 40) : ∀ (pl : List Nat) (n : Nat) (u : zHM) (ds : List (Nat × Nat)), pl.length < n → ds.length + pl.length ≤ 300 → pl.length ≤ 160 → (∀ e ∈ pl, e ≤ 40) → qg_M m u ds pl op bo → ∃ u', zM_settle_L0 n (nI v) u = some u' ∧ qg_M m u' (qg_st v pl ds).2 (qg_st v pl ds).1 op bo ∧ qg_fu m u u'
  | [], n + 1, u, ds, _, _, _, _, M => by
    have c4 := M.2.1.1
    rw [List.length_nil] at c4
    refine ⟨u, ?_, M, qg_fu.rf m u⟩
    simp (disch := omega) only [↓reduceIte, zM_settle_L0, c4, qa_lit, qa_ltF]
  | e :: l, n + 1, u, ds, hn, hd, hp, ha, M => by
    obtain ⟨⟨c1, c2, c3⟩, ⟨c4, c5⟩, c6, c7⟩ := id M
    rw [List.length_cons] at c4 hn hd hp
    have e40 := ha e List.mem_cons_self
    have top := c5.1
    have e1 : nI (l.length + 1) - nI 1 = nI l.length := by rw [qa_sub (by omega), Nat.add_sub_cancel]
    rw [show qg_st v (e :: l) ds = (if e < 40 ∧ v ≤ e then qg_st v l ((e, 0) :: ds) else (e :: l, ds)) from rfl]
    by_cases q : e < 40 ∧ v ≤ e
    · rw [if_pos q]
      obtain ⟨F1, F2⟩ := qg_fieldM (g := upd (u.1 83) 18 (nI l.length)) (pl' := l) (op' := op) (bo' := bo) M (by rw [pk_us]) c5.2 (by rw [pk_un (by omega)]; exact c6) (by rw [pk_un (by omega)]; exact c7) (fun j j1 j2 j3 => by rw [pk_un j1])
      obtain ⟨u1, y1, y2, y3⟩ := qg_emitM hm F1 (by omega) (e, 0)
      obtain ⟨u2, z1, z2, z3⟩ := qg_setM hm hv l n u1 ((e, 0) :: ds) (by omega) (by rw [List.length_cons]; omega) (by omega) (fun e' he' => ha e' (List.mem_cons_of_mem _ he')) y2
      refine ⟨u2, ?_, z2, (F2.tr y3).tr z3⟩
      rw [← z1]
      have t88 : (va_up u.1 83 (upd (u.1 83) 18 (nI l.length))) 88 l.length = nI e := by rw [qa_une _ _ (by omega)]; exact top
      simp (disch := omega) only [↓reduceIte, ↓qa_b, zM_settle_L0, c4, qa_lit, qa_ltT, qa_ltF, e1, qa_ix, qa_cl, top, qa_f1, va_up_self, pk_us, t88, y1, Option.bind_some]
    · rw [if_neg q]
      refine ⟨u, ?_, M, qg_fu.rf m u⟩
      by_cases q1 : e < 40
      · simp (disch := omega) only [↓reduceIte, zM_settle_L0, c4, qa_lit, qa_ltT, e1, qa_ix, qa_cl, top]
      · simp (disch := omega) only [↓reduceIte, zM_settle_L0, c4, qa_lit, qa_ltT, qa_ltF, e1, qa_ix, qa_cl, top]
theorem qg_whM (hm : m ≤ 2370) : ∀ (pl : List Nat) (n : Nat) (u : zHM) (ds : List (Nat × Nat)) (op : Nat), pl.length < n → ds.length + pl.length ≤ 300 → pl.length ≤ 160 → (∀ e ∈ pl, e ≤ 40) → pl.countP (fun e => decide (e = 2)) ≤ op → op ≤ 1000 → qg_M m u ds pl op bo → ∃ u', zM_whole_L5 n u = some u' ∧ qg_M m u' (qg_wh pl ds op).2.1 (qg_wh pl ds op).1 (qg_wh pl ds op).2.2 bo ∧ qg_fu m u u'
  | [], n + 1, u, ds, op, _, _, _, _, _, _, M => by
    have c4 := M.2.1.1
    rw [List.length_nil] at c4
    refine ⟨u, ?_, M, qg_fu.rf m u⟩
    simp (disch := omega) only [↓reduceIte, zM_whole_L5, c4, qa_lit, qa_ltF]
  | e :: l, n + 1, u, ds, op, hn, hd, hp, ha, ho, ho2, M => by
    obtain ⟨⟨c1, c2, c3⟩, ⟨c4, c5⟩, c6, c7⟩ := id M
    rw [List.length_cons] at c4 hn hd hp
    have e40 := ha e List.mem_cons_self
    have top := c5.1
    have e1 : nI (l.length + 1) - nI 1 = nI l.length := by rw [qa_sub (by omega), Nat.add_sub_cancel]
    rw [show qg_wh (e :: l) ds op = (if e = 2 then qg_wh l ((2, 0) :: ds) (op - 1) else (e :: l, ds, op)) from rfl]
    rw [List.countP_cons] at ho
    by_cases q : e = 2
    · rw [if_pos q]
      rw [decide_eq_true q, if_pos rfl] at ho
      obtain ⟨F1, F2⟩ := qg_fieldM (g := upd (upd (u.1 83) 18 (nI l.length)) 19 (nI (op - 1))) (pl' := l) (op' := op - 1) (bo' := bo) M (by rw [pk_un (by omega), pk_us]) c5.2 (by rw [pk_us]) (by rw [pk_un (by omega), pk_un (by omega)]; exact c7) (fun j j1 j2 j3 => by rw [pk_un j2, pk_un j1])
      obtain ⟨u1, y1, y2, y3⟩ := qg_emitM hm F1 (by omega) (2, 0)
      obtain ⟨u2, z1, z2, z3⟩ := qg_whM hm l n u1 ((2, 0) :: ds) (op - 1) (by omega) (by rw [List.length_cons]; omega) (by omega) (fun e' he' => ha e' (List.mem_cons_of_mem _ he')) (by omega) (by omega) y2
      refine ⟨u2, ?_, z2, (F2.tr y3).tr z3⟩
      rw [← z1]
      rw [q] at top
      simp (disch := omega) only [↓reduceIte, ↓qa_b, zM_whole_L5, c4, qa_lit, qa_ltT, e1, qa_ix, qa_cl, top, qa_f1, va_up_self, qa_up2, pk_un, c6, qa_sub, y1, Option.bind_some]
    · rw [if_neg q]
      refine ⟨u, ?_, M, qg_fu.rf m u⟩
      simp (disch := omega) only [↓reduceIte, zM_whole_L5, c4, qa_lit, qa_ltT, e1, qa_ix, qa_cl, top, qa_eqF]
theorem qg_k_at {f : Nat → Int32} : ∀ (l : List Nat) (i : Nat) (hi : i < l.length), qg_k f l → ∃ e ∈ l, f i = nI e
  | a :: l, i, hi, h => by
    rw [List.length_cons] at hi
    by_cases q : i = l.length
    · rw [q]
      exact ⟨a, List.mem_cons_self, h.1⟩
    · obtain ⟨e, e1, e2⟩ := qg_k_at l i (by omega) h.2
      exact ⟨e, List.mem_cons_of_mem _ e1, e2⟩
theorem qg_k_of {f : Nat → Int32} : ∀ (l : List Nat), qg_k f l → ∀ e ∈ l, ∃ i, i < l.length ∧ f i = nI e
  | a :: l, h, e, he => by
    rcases List.mem_cons.mp he with q | q
    · exact ⟨l.length, by rw [List.length_cons]; omega, by rw [q]; exact h.1⟩
    · obtain ⟨i, i1, i2⟩ := qg_k_of l h.2 e q
      exact ⟨i, by rw [List.length_cons]; omega, i2⟩
theorem qg_parM {u : zHM} {ds : List (Nat × Nat)} {pl : List Nat} (M : qg_M m u ds pl op bo) (hp : pl.length ≤ 160) (ha : ∀ e ∈ pl, e ≤ 40) : ∀ (k n i : Nat), i + k = pl.length → k < n → (∃ r, zM_hasParen_L2 n (nI i) u = some (nI r) ∧ (r = 1 ∧ 40 ∈ pl ∨ r = 0 ∧ ∀ j, i ≤ j → j < pl.length → u.1 88 j ≠ nI 40))
  | 0, n + 1, i, hi, _ => by
    have c4 := M.2.1.1
    have : i = pl.length := by omega
    refine ⟨0, ?_, Or.inr ⟨rfl, fun j a b => by omega⟩⟩
    simp (disch := omega) only [↓reduceIte, zM_hasParen_L2, c4, qa_lit, qa_ltF]
  | k + 1, n + 1, i, hi, hn => by
    have c4 := M.2.1.1
    obtain ⟨e, e1, e2⟩ := qg_k_at pl i (by omega) M.2.1.2
    have e40 := ha e e1
    by_cases q : e = 40
    · refine ⟨1, ?_, Or.inl ⟨rfl, by rw [← q]; exact e1⟩⟩
      rw [q] at e2
      simp (disch := omega) only [↓reduceIte, zM_hasParen_L2, c4, qa_lit, qa_ltT, qa_ix, qa_cl, e2]
    · obtain ⟨r, r1, r2⟩ := qg_parM M hp ha k n (i + 1) (by omega) (by omega)
      refine ⟨r, ?_, ?_⟩
      · rw [← r1]
        simp (disch := omega) only [↓reduceIte, zM_hasParen_L2, c4, qa_lit, qa_ltT, qa_ix, qa_cl, e2, qa_eqF, nI_add]
      · rcases r2 with r2 | ⟨r2, r3⟩
        · exact Or.inl r2
        · refine Or.inr ⟨r2, fun j a b => ?_⟩
          by_cases z : j = i
          · rw [z, e2]
            intro y
            exact q ((nI_eq (by omega) (by omega)).mp y)
          · exact r3 j (by omega) b
theorem qg_par {u : zHM} {ds : List (Nat × Nat)} {pl : List Nat} (M : qg_M m u ds pl op bo) (hp : pl.length ≤ 160) (ha : ∀ e ∈ pl, e ≤ 40) : zM_hasParen u = some (qs_b (decide (40 ∈ pl))) := by
  obtain ⟨r, r1, r2⟩ := qg_parM M hp ha pl.length am_N 0 (by omega) (Nat.lt_of_le_of_lt hp (by decide))
  rw [show zM_hasParen u = zM_hasParen_L2 am_N (nI 0) u from rfl, r1]
  rcases r2 with ⟨a, b⟩ | ⟨a, b⟩
  · rw [decide_eq_true b, a]; rfl
  · rw [decide_eq_false (fun z => by
      obtain ⟨i, i1, i2⟩ := qg_k_of pl M.2.1.2 40 z
      exact b i (by omega) i1 i2), a]
    rfl
end
