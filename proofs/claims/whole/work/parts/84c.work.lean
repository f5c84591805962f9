/-! THE HEART: the reference asks a law -/
/-- heaps of the reference that differ in scratch alone -/
def ql_fr (w w' : zHM) : Prop := (∀ c, c ≠ 91 → w'.1 c = w.1 c) ∧ (∀ c, c ≠ 90 → w'.2 c = w.2 c)
theorem ql_fr.rf (w : zHM) : ql_fr w w := ⟨fun _ _ => rfl, fun _ _ => rfl⟩
theorem ql_fr.tr {w w' w'' : zHM} (h : ql_fr w w') (h' : ql_fr w' w'') : ql_fr w w'' := ⟨fun c hc => (h'.1 c hc).trans (h.1 c hc), fun c hc => (h'.2 c hc).trans (h.2 c hc)⟩
theorem ql_l64 {v : Nat} (h : v < 2147483648) : ((nI v).toInt64).toInt = v := by rw [Int32.toInt_toInt64, nI_toInt h]
theorem ql_neg64 {X : Int64} (h : ql_sm X.toInt) : (-X).toInt = -X.toInt := by
  unfold ql_sm at h
  rw [Int64.toInt_neg]
  exact fb_bmodL (by omega) (by omega)
theorem ql_qb (b : Bool) : qs_b b &&& nI 1 = qs_b b := by cases b <;> decide
theorem ql_qb1 (b : Bool) : (qs_b b = nI 0) = (b = false) := qs_b0 b
section
variable {nm : Nat → Int} {n x cb i e : Nat} {w : zHM}
theorem qlm_step {o v : Nat} {vs : List Int} {ts : List Bool} {s' : Nat × Nat} (hq : qi_okc (o, v)) (hs : qi_sh o (vs.length, ts.length) = some s') (hl : vs.length + ts.length ≤ 60) (hb : ql_bd vs) (hv : ql_sv (w.2 90) vs) (ht : ql_sb (w.1 91) ts) (hx : x + 2 < 3160) (hcb : cb + 602 < 3160) (he : w.1 86 (x + 2) = nI e) (hie : i < e) (he3 : e ≤ 300) (c1 : w.1 86 (cb + 2 * i) = nI o) (c2 : w.1 86 (cb + 2 * i + 1) = nI v) (hn : o = 1 → (w.1 89 v).toInt = nm v) :
    ∃ w', zM_work_L48 (n + 1) (nI x) (nI cb) (nI vs.length) (nI ts.length) (nI i) w = zM_work_L48 n (nI x) (nI cb) (nI (ql_st nm (o, v) (vs, ts)).1.length) (nI (ql_st nm (o, v) (vs, ts)).2.length) (nI (i + 1)) w' ∧ ql_sv (w'.2 90) (ql_st nm (o, v) (vs, ts)).1 ∧ ql_sb (w'.1 91) (ql_st nm (o, v) (vs, ts)).2 ∧ ql_fr w w' := by
  unfold qi_sh at hs
  unfold ql_st
  dsimp only at hs ⊢
  rcases hq with ⟨h0, h1⟩ | ⟨h0, h1⟩ | ⟨h0, h1⟩
  · dsimp only at h0 h1
    subst h0
    refine ⟨(w.1, va_up w.2 90 (vp_updL (w.2 90) vs.length (nI v).toInt64)), ?_, ?_, ?_, fun _ _ => rfl, fun c hc => ?_⟩
    · simp (disch := omega) only [↓reduceIte, ↓qa_b, qa_b, qa_lit, qa_neg1, qa_qN, nI_add, pk_mul, qa_ix, qa_cl, qa_ltT, qa_ltF, qa_eqT, qa_eqF, qa_nN, qa_Nn, qa_ltN, qa_Nlt, qa_NN, qa_ltNN, qa_sub, qa_dec, qa_dec0, qa_sub0, qa_incN, qa_31, qa_shr, qa_shl, qa_and1, va_up_self, qa_une, pk_us, pk_un, qa_up2, qa_upd2, Option.bind_some, if_true, if_false, and_true, true_and, and_self, qa_f1, qa_f2, zM_work_L48, he, c1, c2, List.length_cons]
    · simp only [if_true, qa_f2, va_up_self]
      refine ⟨?_, ql_sv_up (Nat.le_refl _) hv⟩
      rw [pk_uLs]
      exact ql_l64 (by omega)
    · simp only [if_true]
      exact ht
    · simp (disch := omega) only [↓reduceIte, ↓qa_b, qa_b, qa_lit, qa_neg1, qa_qN, nI_add, pk_mul, qa_ix, qa_cl, qa_ltT, qa_ltF, qa_eqT, qa_eqF, qa_nN, qa_Nn, qa_ltN, qa_Nlt, qa_NN, qa_ltNN, qa_sub, qa_dec, qa_dec0, qa_sub0, qa_incN, qa_31, qa_shr, qa_shl, qa_and1, va_up_self, qa_une, pk_us, pk_un, qa_up2, qa_upd2, Option.bind_some, if_true, if_false, and_true, true_and, and_self, qa_f1, qa_f2]
  · dsimp only at h0 h1
    subst h0
    refine ⟨(w.1, va_up w.2 90 (vp_updL (w.2 90) vs.length (w.1 89 v).toInt64)), ?_, ?_, ?_, fun _ _ => rfl, fun c hc => ?_⟩
    · simp (disch := omega) only [↓reduceIte, ↓qa_b, qa_b, qa_lit, qa_neg1, qa_qN, nI_add, pk_mul, qa_ix, qa_cl, qa_ltT, qa_ltF, qa_eqT, qa_eqF, qa_nN, qa_Nn, qa_ltN, qa_Nlt, qa_NN, qa_ltNN, qa_sub, qa_dec, qa_dec0, qa_sub0, qa_incN, qa_31, qa_shr, qa_shl, qa_and1, va_up_self, qa_une, pk_us, pk_un, qa_up2, qa_upd2, Option.bind_some, if_true, if_false, and_true, true_and, and_self, qa_f1, qa_f2, zM_work_L48, he, c1, c2, List.length_cons, Nat.one_ne_zero]
    · simp only [if_true, Nat.one_ne_zero, if_false, qa_f2, va_up_self]
      refine ⟨?_, ql_sv_up (Nat.le_refl _) hv⟩
      rw [pk_uLs, Int32.toInt_toInt64]
      exact hn rfl
    · simp only [if_true, Nat.one_ne_zero, if_false]
      exact ht
    · simp (disch := omega) only [↓reduceIte, ↓qa_b, qa_b, qa_lit, qa_neg1, qa_qN, nI_add, pk_mul, qa_ix, qa_cl, qa_ltT, qa_ltF, qa_eqT, qa_eqF, qa_nN, qa_Nn, qa_ltN, qa_Nlt, qa_NN, qa_ltNN, qa_sub, qa_dec, qa_dec0, qa_sub0, qa_incN, qa_31, qa_shr, qa_shl, qa_and1, va_up_self, qa_une, pk_us, pk_un, qa_up2, qa_upd2, Option.bind_some, if_true, if_false, and_true, true_and, and_self, qa_f1, qa_f2]
  dsimp only at h0 h1
  subst h0
  rw [if_neg (by omega)] at hs
  rw [if_neg (by omega), if_neg (by omega)]
  by_cases h2 : o = 2
  · subst h2
    rw [if_pos rfl] at hs ⊢
    split at hs
    · match vs, hv, hb, hl with
      | [], _, _, _ => rename_i hc; simp at hc
      | y :: vs, hv, hb, hl =>
        rw [List.length_cons] at hl
        have e1 : vs.length + 1 - 1 = vs.length := by omega
        refine ⟨(w.1, va_up w.2 90 (vp_updL (w.2 90) vs.length (-(w.2 90 vs.length)))), ?_, ?_, ht, fun _ _ => rfl, fun c hc => ?_⟩
        · simp (disch := omega) only [↓reduceIte, ↓qa_b, qa_b, qa_lit, qa_neg1, qa_qN, nI_add, pk_mul, qa_ix, qa_cl, qa_ltT, qa_ltF, qa_eqT, qa_eqF, qa_nN, qa_Nn, qa_ltN, qa_Nlt, qa_NN, qa_ltNN, qa_sub, qa_dec, qa_dec0, qa_sub0, qa_incN, qa_31, qa_shr, qa_shl, qa_and1, va_up_self, qa_une, pk_us, pk_un, qa_up2, qa_upd2, Option.bind_some, if_true, if_false, and_true, true_and, and_self, qa_f1, qa_f2, zM_work_L48, he, c1, c2, List.length_cons, e1]
        · simp only [qa_f2, va_up_self]
          refine ⟨?_, ql_sv_up (Nat.le_refl _) hv.2⟩
          rw [pk_uLs, ql_neg64 (by rw [hv.1]; exact hb y List.mem_cons_self), hv.1]
        · simp (disch := omega) only [↓reduceIte, ↓qa_b, qa_b, qa_lit, qa_neg1, qa_qN, nI_add, pk_mul, qa_ix, qa_cl, qa_ltT, qa_ltF, qa_eqT, qa_eqF, qa_nN, qa_Nn, qa_ltN, qa_Nlt, qa_NN, qa_ltNN, qa_sub, qa_dec, qa_dec0, qa_sub0, qa_incN, qa_31, qa_shr, qa_shl, qa_and1, va_up_self, qa_une, pk_us, pk_un, qa_up2, qa_upd2, Option.bind_some, if_true, if_false, and_true, true_and, and_self, qa_f1, qa_f2]
    · cases hs
  rw [if_neg h2] at hs ⊢
  by_cases h3 : o < 10
  · rw [if_pos h3] at hs ⊢
    split at hs
    · match vs, hv, hb, hl with
      | [], _, _, _ => rename_i hc; simp at hc
      | [_], _, _, _ => rename_i hc; simp at hc
      | y :: z :: vs, hv, hb, hl =>
        rw [List.length_cons, List.length_cons] at hl
        have e1 : vs.length + 1 + 1 - 1 = vs.length + 1 := by omega
        have e2 : vs.length + 1 - 1 = vs.length := by omega
        have v1 : (w.2 90 (vs.length + 1)).toInt = y := hv.1
        have v2 : (w.2 90 vs.length).toInt = z := hv.2.1
        obtain ⟨r, hr1, hr2⟩ := ql_two (o := o) (by omega) (by omega) (X := w.2 90 vs.length) (Y := w.2 90 (vs.length + 1)) (by rw [v2]; exact hb z (List.mem_cons_of_mem _ List.mem_cons_self)) (by rw [v1]; exact hb y List.mem_cons_self)
        refine ⟨(w.1, va_up w.2 90 (vp_updL (w.2 90) vs.length r)), ?_, ?_, ht, fun _ _ => rfl, fun c hc => ?_⟩
        · simp (disch := omega) only [↓reduceIte, ↓qa_b, qa_b, qa_lit, qa_neg1, qa_qN, nI_add, pk_mul, qa_ix, qa_cl, qa_ltT, qa_ltF, qa_eqT, qa_eqF, qa_nN, qa_Nn, qa_ltN, qa_Nlt, qa_NN, qa_ltNN, qa_sub, qa_dec, qa_dec0, qa_sub0, qa_incN, qa_31, qa_shr, qa_shl, qa_and1, va_up_self, qa_une, pk_us, pk_un, qa_up2, qa_upd2, Option.bind_some, if_true, if_false, and_true, true_and, and_self, qa_f1, qa_f2, zM_work_L48, he, c1, c2, List.length_cons, e1, e2, hr1]
        · simp only [qa_f2, va_up_self]
          refine ⟨?_, ql_sv_up (Nat.le_refl _) hv.2.2⟩
          rw [pk_uLs, hr2, v1, v2]
        · simp (disch := omega) only [↓reduceIte, ↓qa_b, qa_b, qa_lit, qa_neg1, qa_qN, nI_add, pk_mul, qa_ix, qa_cl, qa_ltT, qa_ltF, qa_eqT, qa_eqF, qa_nN, qa_Nn, qa_ltN, qa_Nlt, qa_NN, qa_ltNN, qa_sub, qa_dec, qa_dec0, qa_sub0, qa_incN, qa_31, qa_shr, qa_shl, qa_and1, va_up_self, qa_une, pk_us, pk_un, qa_up2, qa_upd2, Option.bind_some, if_true, if_false, and_true, true_and, and_self, qa_f1, qa_f2]
    · cases hs
  rw [if_neg h3] at hs ⊢
  by_cases h4 : o < 20
  · rw [if_pos h4] at hs ⊢
    split at hs
    · match vs, hv, hb, hl with
      | [], _, _, _ => rename_i hc; simp at hc
      | [_], _, _, _ => rename_i hc; simp at hc
      | y :: z :: vs, hv, hb, hl =>
        rw [List.length_cons, List.length_cons] at hl
        have e1 : nI (vs.length + 1 + 1) + -(nI 2) = nI vs.length := by
          rw [show vs.length + 1 + 1 = vs.length + 2 by omega, ← nI_add, Int32.add_assoc, show nI 2 + -(nI 2) = nI 0 by decide, nI_add, Nat.add_zero]
        have e1' : nI (vs.length + 1 + 1) + (-2 : Int32) = nI vs.length := e1
        have v1 : (w.2 90 (vs.length + 1)).toInt = y := hv.1
        have v2 : (w.2 90 vs.length).toInt = z := hv.2.1
        have hr := ql_asked (o := o) (by omega) (by omega) (w.2 90 vs.length) (w.2 90 (vs.length + 1))
        rw [v1, v2] at hr
        refine ⟨(va_up w.1 91 (upd (w.1 91) ts.length (qs_b (ql_cp o z y))), w.2), ?_, hv.2.2, ?_, fun c hc => ?_, fun _ _ => rfl⟩
        · simp (disch := omega) only [↓reduceIte, ↓qa_b, qa_b, qa_lit, qa_neg1, qa_qN, nI_add, pk_mul, qa_ix, qa_cl, qa_ltT, qa_ltF, qa_eqT, qa_eqF, qa_nN, qa_Nn, qa_ltN, qa_Nlt, qa_NN, qa_ltNN, qa_sub, qa_dec, qa_dec0, qa_sub0, qa_incN, qa_31, qa_shr, qa_shl, qa_and1, va_up_self, qa_une, pk_us, pk_un, qa_up2, qa_upd2, Option.bind_some, if_true, if_false, and_true, true_and, and_self, qa_f1, qa_f2, zM_work_L48, he, c1, c2, List.length_cons, e1, e1', hr, ql_qb]
        · simp only [qa_f1, va_up_self]
          refine ⟨?_, ql_sb_up (Nat.le_refl _) ht⟩
          rw [pk_us]
        · simp (disch := omega) only [↓reduceIte, ↓qa_b, qa_b, qa_lit, qa_neg1, qa_qN, nI_add, pk_mul, qa_ix, qa_cl, qa_ltT, qa_ltF, qa_eqT, qa_eqF, qa_nN, qa_Nn, qa_ltN, qa_Nlt, qa_NN, qa_ltNN, qa_sub, qa_dec, qa_dec0, qa_sub0, qa_incN, qa_31, qa_shr, qa_shl, qa_and1, va_up_self, qa_une, pk_us, pk_un, qa_up2, qa_upd2, Option.bind_some, if_true, if_false, and_true, true_and, and_self, qa_f1, qa_f2]
    · cases hs
  rw [if_neg h4] at hs ⊢
  by_cases h5 : o = 20
  · subst h5
    rw [if_pos rfl] at hs ⊢
    split at hs
    · match ts, ht, hl with
      | [], _, _ => rename_i hc; simp at hc
      | b :: ts, ht, hl =>
        rw [List.length_cons] at hl
        have e1 : ts.length + 1 - 1 = ts.length := by omega
        have v1 : w.1 91 ts.length = qs_b b := ht.1
        refine ⟨(va_up w.1 91 (upd (w.1 91) ts.length (qs_b (!b))), w.2), ?_, hv, ?_, fun c hc => ?_, fun _ _ => rfl⟩
        · cases b
          · simp (disch := omega) only [↓reduceIte, ↓qa_b, qa_b, qa_lit, qa_neg1, qa_qN, nI_add, pk_mul, qa_ix, qa_cl, qa_ltT, qa_ltF, qa_eqT, qa_eqF, qa_nN, qa_Nn, qa_ltN, qa_Nlt, qa_NN, qa_ltNN, qa_sub, qa_dec, qa_dec0, qa_sub0, qa_incN, qa_31, qa_shr, qa_shl, qa_and1, va_up_self, qa_une, pk_us, pk_un, qa_up2, qa_upd2, Option.bind_some, if_true, if_false, and_true, true_and, and_self, qa_f1, qa_f2, zM_work_L48, he, c1, c2, List.length_cons, e1, v1, ql_qb1, Bool.not_false, qs_b, Bool.false_eq_true]
          · simp (disch := omega) only [↓reduceIte, ↓qa_b, qa_b, qa_lit, qa_neg1, qa_qN, nI_add, pk_mul, qa_ix, qa_cl, qa_ltT, qa_ltF, qa_eqT, qa_eqF, qa_nN, qa_Nn, qa_ltN, qa_Nlt, qa_NN, qa_ltNN, qa_sub, qa_dec, qa_dec0, qa_sub0, qa_incN, qa_31, qa_shr, qa_shl, qa_and1, va_up_self, qa_une, pk_us, pk_un, qa_up2, qa_upd2, Option.bind_some, if_true, if_false, and_true, true_and, and_self, qa_f1, qa_f2, zM_work_L48, he, c1, c2, List.length_cons, e1, v1, ql_qb1, Bool.not_true, qs_b, Bool.true_eq_false, Bool.false_eq_true]
        · simp only [qa_f1, va_up_self]
          refine ⟨?_, ql_sb_up (Nat.le_refl _) ht.2⟩
          rw [pk_us]
        · simp (disch := omega) only [↓reduceIte, ↓qa_b, qa_b, qa_lit, qa_neg1, qa_qN, nI_add, pk_mul, qa_ix, qa_cl, qa_ltT, qa_ltF, qa_eqT, qa_eqF, qa_nN, qa_Nn, qa_ltN, qa_Nlt, qa_NN, qa_ltNN, qa_sub, qa_dec, qa_dec0, qa_sub0, qa_incN, qa_31, qa_shr, qa_shl, qa_and1, va_up_self, qa_une, pk_us, pk_un, qa_up2, qa_upd2, Option.bind_some, if_true, if_false, and_true, true_and, and_self, qa_f1, qa_f2]
    · cases hs
  rw [if_neg h5] at hs ⊢
  split at hs
  · match ts, ht, hl with
    | [], _, _ => rename_i hc; simp at hc
    | [_], _, _ => rename_i hc; simp at hc
    | c :: b :: ts, ht, hl =>
      rw [List.length_cons, List.length_cons] at hl
      have e1 : ts.length + 1 + 1 - 1 = ts.length + 1 := by omega
      have e2 : ts.length + 1 - 1 = ts.length := by omega
      have v1 : w.1 91 (ts.length + 1) = qs_b c := ht.1
      have v2 : w.1 91 ts.length = qs_b b := ht.2.1
      by_cases h6 : o = 21
      · subst h6
        rw [if_pos rfl]
        refine ⟨(va_up w.1 91 (upd (w.1 91) ts.length (qs_b (b && c))), w.2), ?_, hv, ?_, fun c hc => ?_, fun _ _ => rfl⟩
        · cases b <;> cases c
          · simp (disch := omega) only [↓reduceIte, ↓qa_b, qa_b, qa_lit, qa_neg1, qa_qN, nI_add, pk_mul, qa_ix, qa_cl, qa_ltT, qa_ltF, qa_eqT, qa_eqF, qa_nN, qa_Nn, qa_ltN, qa_Nlt, qa_NN, qa_ltNN, qa_sub, qa_dec, qa_dec0, qa_sub0, qa_incN, qa_31, qa_shr, qa_shl, qa_and1, va_up_self, qa_une, pk_us, pk_un, qa_up2, qa_upd2, Option.bind_some, if_true, if_false, and_true, true_and, and_self, qa_f1, qa_f2, zM_work_L48, he, c1, c2, List.length_cons, e1, e2, v1, v2, ql_qb1, Bool.and_self, Bool.false_and, qs_b, Bool.false_eq_true, Bool.true_eq_false]
          · simp (disch := omega) only [↓reduceIte, ↓qa_b, qa_b, qa_lit, qa_neg1, qa_qN, nI_add, pk_mul, qa_ix, qa_cl, qa_ltT, qa_ltF, qa_eqT, qa_eqF, qa_nN, qa_Nn, qa_ltN, qa_Nlt, qa_NN, qa_ltNN, qa_sub, qa_dec, qa_dec0, qa_sub0, qa_incN, qa_31, qa_shr, qa_shl, qa_and1, va_up_self, qa_une, pk_us, pk_un, qa_up2, qa_upd2, Option.bind_some, if_true, if_false, and_true, true_and, and_self, qa_f1, qa_f2, zM_work_L48, he, c1, c2, List.length_cons, e1, e2, v1, v2, ql_qb1, Bool.and_self, Bool.false_and, qs_b, Bool.false_eq_true, Bool.true_eq_false]
          · simp (disch := omega) only [↓reduceIte, ↓qa_b, qa_b, qa_lit, qa_neg1, qa_qN, nI_add, pk_mul, qa_ix, qa_cl, qa_ltT, qa_ltF, qa_eqT, qa_eqF, qa_nN, qa_Nn, qa_ltN, qa_Nlt, qa_NN, qa_ltNN, qa_sub, qa_dec, qa_dec0, qa_sub0, qa_incN, qa_31, qa_shr, qa_shl, qa_and1, va_up_self, qa_une, pk_us, pk_un, qa_up2, qa_upd2, Option.bind_some, if_true, if_false, and_true, true_and, and_self, qa_f1, qa_f2, zM_work_L48, he, c1, c2, List.length_cons, e1, e2, v1, v2, ql_qb1, Bool.and_false, qs_b, Bool.false_eq_true, Bool.true_eq_false]
          · simp (disch := omega) only [↓reduceIte, ↓qa_b, qa_b, qa_lit, qa_neg1, qa_qN, nI_add, pk_mul, qa_ix, qa_cl, qa_ltT, qa_ltF, qa_eqT, qa_eqF, qa_nN, qa_Nn, qa_ltN, qa_Nlt, qa_NN, qa_ltNN, qa_sub, qa_dec, qa_dec0, qa_sub0, qa_incN, qa_31, qa_shr, qa_shl, qa_and1, va_up_self, qa_une, pk_us, pk_un, qa_up2, qa_upd2, Option.bind_some, if_true, if_false, and_true, true_and, and_self, qa_f1, qa_f2, zM_work_L48, he, c1, c2, List.length_cons, e1, e2, v1, v2, ql_qb1, Bool.and_self, qs_b, Bool.false_eq_true, Bool.true_eq_false]
        · simp only [qa_f1, va_up_self]
          refine ⟨?_, ql_sb_up (Nat.le_refl _) ht.2.2⟩
          rw [pk_us]
        · simp (disch := omega) only [↓reduceIte, ↓qa_b, qa_b, qa_lit, qa_neg1, qa_qN, nI_add, pk_mul, qa_ix, qa_cl, qa_ltT, qa_ltF, qa_eqT, qa_eqF, qa_nN, qa_Nn, qa_ltN, qa_Nlt, qa_NN, qa_ltNN, qa_sub, qa_dec, qa_dec0, qa_sub0, qa_incN, qa_31, qa_shr, qa_shl, qa_and1, va_up_self, qa_une, pk_us, pk_un, qa_up2, qa_upd2, Option.bind_some, if_true, if_false, and_true, true_and, and_self, qa_f1, qa_f2]
      · have h7 : o = 22 := by omega
        subst h7
        rw [if_neg (by omega)]
        refine ⟨(va_up w.1 91 (upd (w.1 91) ts.length (qs_b (b || c))), w.2), ?_, hv, ?_, fun c hc => ?_, fun _ _ => rfl⟩
        · cases b <;> cases c
          · simp (disch := omega) only [↓reduceIte, ↓qa_b, qa_b, qa_lit, qa_neg1, qa_qN, nI_add, pk_mul, qa_ix, qa_cl, qa_ltT, qa_ltF, qa_eqT, qa_eqF, qa_nN, qa_Nn, qa_ltN, qa_Nlt, qa_NN, qa_ltNN, qa_sub, qa_dec, qa_dec0, qa_sub0, qa_incN, qa_31, qa_shr, qa_shl, qa_and1, va_up_self, qa_une, pk_us, pk_un, qa_up2, qa_upd2, Option.bind_some, if_true, if_false, and_true, true_and, and_self, qa_f1, qa_f2, zM_work_L48, he, c1, c2, List.length_cons, e1, e2, v1, v2, ql_qb1, Bool.or_self, qs_b, Bool.false_eq_true, Bool.true_eq_false]
          · simp (disch := omega) only [↓reduceIte, ↓qa_b, qa_b, qa_lit, qa_neg1, qa_qN, nI_add, pk_mul, qa_ix, qa_cl, qa_ltT, qa_ltF, qa_eqT, qa_eqF, qa_nN, qa_Nn, qa_ltN, qa_Nlt, qa_NN, qa_ltNN, qa_sub, qa_dec, qa_dec0, qa_sub0, qa_incN, qa_31, qa_shr, qa_shl, qa_and1, va_up_self, qa_une, pk_us, pk_un, qa_up2, qa_upd2, Option.bind_some, if_true, if_false, and_true, true_and, and_self, qa_f1, qa_f2, zM_work_L48, he, c1, c2, List.length_cons, e1, e2, v1, v2, ql_qb1, Bool.false_or, qs_b, Bool.false_eq_true, Bool.true_eq_false]
          · simp (disch := omega) only [↓reduceIte, ↓qa_b, qa_b, qa_lit, qa_neg1, qa_qN, nI_add, pk_mul, qa_ix, qa_cl, qa_ltT, qa_ltF, qa_eqT, qa_eqF, qa_nN, qa_Nn, qa_ltN, qa_Nlt, qa_NN, qa_ltNN, qa_sub, qa_dec, qa_dec0, qa_sub0, qa_incN, qa_31, qa_shr, qa_shl, qa_and1, va_up_self, qa_une, pk_us, pk_un, qa_up2, qa_upd2, Option.bind_some, if_true, if_false, and_true, true_and, and_self, qa_f1, qa_f2, zM_work_L48, he, c1, c2, List.length_cons, e1, e2, v1, v2, ql_qb1, Bool.or_false, qs_b, Bool.false_eq_true, Bool.true_eq_false]
          · simp (disch := omega) only [↓reduceIte, ↓qa_b, qa_b, qa_lit, qa_neg1, qa_qN, nI_add, pk_mul, qa_ix, qa_cl, qa_ltT, qa_ltF, qa_eqT, qa_eqF, qa_nN, qa_Nn, qa_ltN, qa_Nlt, qa_NN, qa_ltNN, qa_sub, qa_dec, qa_dec0, qa_sub0, qa_incN, qa_31, qa_shr, qa_shl, qa_and1, va_up_self, qa_une, pk_us, pk_un, qa_up2, qa_upd2, Option.bind_some, if_true, if_false, and_true, true_and, and_self, qa_f1, qa_f2, zM_work_L48, he, c1, c2, List.length_cons, e1, e2, v1, v2, ql_qb1, Bool.or_self, qs_b, Bool.false_eq_true, Bool.true_eq_false]
        · simp only [qa_f1, va_up_self]
          refine ⟨?_, ql_sb_up (Nat.le_refl _) ht.2.2⟩
          rw [pk_us]
        · simp (disch := omega) only [↓reduceIte, ↓qa_b, qa_b, qa_lit, qa_neg1, qa_qN, nI_add, pk_mul, qa_ix, qa_cl, qa_ltT, qa_ltF, qa_eqT, qa_eqF, qa_nN, qa_Nn, qa_ltN, qa_Nlt, qa_NN, qa_ltNN, qa_sub, qa_dec, qa_dec0, qa_sub0, qa_incN, qa_31, qa_shr, qa_shl, qa_and1, va_up_self, qa_une, pk_us, pk_un, qa_up2, qa_upd2, Option.bind_some, if_true, if_false, and_true, true_and, and_self, qa_f1, qa_f2]
  · cases hs
/-- the reference's loop over a law's codes -/
theorem qlm_work (hx : x + 2 < 3160) (hcb : cb + 602 < 3160) (he3 : e ≤ 300) : ∀ (l : List (Nat × Nat)) (n i : Nat) (vs : List Int) (ts : List Bool) (w : zHM), l.length < n → i + l.length = e → w.1 86 (x + 2) = nI e → (∀ (j : Nat) (hj : j < l.length), qi_okc l[j] ∧ w.1 86 (cb + 2 * (i + j)) = nI l[j].1 ∧ w.1 86 (cb + 2 * (i + j) + 1) = nI l[j].2) → (∀ q ∈ l, q.1 = 1 → (w.1 89 q.2).toInt = nm q.2 ∧ ql_sm (nm q.2)) → vs.length + ts.length ≤ 60 → ql_bd vs → ql_sv (w.2 90) vs → ql_sb (w.1 91) ts → qi_run l (vs.length, ts.length) = some (0, 1) →
    ∃ w' b, zM_work_L48 n (nI x) (nI cb) (nI vs.length) (nI ts.length) (nI i) w = some w' ∧ ql_ev nm l (vs, ts) = ([], [b]) ∧ w'.1 91 0 = qs_b b ∧ ql_fr w w'
  | [], n + 1, i, vs, ts, w, _, hi, he, _, _, _, _, hv, ht, hr => by
    have hr : (vs.length, ts.length) = (0, 1) := by simpa [qi_run] using hr
    have h1 : vs.length = 0 := congrArg Prod.fst hr
    have h2 : ts.length = 1 := congrArg Prod.snd hr
    match vs, ts, h1, h2, ht with
    | [], [b], _, _, ht =>
      rw [List.length_nil, Nat.add_zero] at hi
      refine ⟨w, b, ?_, rfl, ht.1, ql_fr.rf w⟩
      simp (disch := omega) only [↓reduceIte, ↓qa_b, qa_b, qa_lit, qa_neg1, qa_qN, nI_add, pk_mul, qa_ix, qa_cl, qa_ltT, qa_ltF, qa_eqT, qa_eqF, qa_nN, qa_Nn, qa_ltN, qa_Nlt, qa_NN, qa_ltNN, qa_sub, qa_dec, qa_dec0, qa_sub0, qa_incN, qa_31, qa_shr, qa_shl, qa_and1, va_up_self, qa_une, pk_us, pk_un, qa_up2, qa_upd2, Option.bind_some, if_true, if_false, and_true, true_and, and_self, qa_f1, qa_f2, zM_work_L48, he]
  | q :: l, n + 1, i, vs, ts, w, hn, hi, he, hc, hnm, hl, hb, hv, ht, hr => by
    rw [List.length_cons] at hn hi
    obtain ⟨k0, k1, k2⟩ := hc 0 (Nat.zero_lt_succ _)
    rw [Nat.add_zero] at k1 k2
    obtain ⟨o, v⟩ := q
    unfold qi_run at hr
    cases hs : qi_sh o (vs.length, ts.length) with
    | none => rw [hs] at hr; cases hr
    | some s' =>
      rw [hs] at hr
      have hr : qi_run l s' = some (0, 1) := hr
      have hq0 := hnm (o, v) List.mem_cons_self
      obtain ⟨w1, e1, f1, f2, f3⟩ := qlm_step (nm := nm) (n := n) (x := x) (cb := cb) (i := i) (e := e) k0 hs hl hb hv ht hx hcb he (by omega) he3 k1 k2 (fun h => (hq0 h).1)
      obtain ⟨g1, g2⟩ := ql_step nm k0 (fun h => (hq0 h).2) hb hs
      have hl2 : (ql_st nm (o, v) (vs, ts)).1.length + (ql_st nm (o, v) (vs, ts)).2.length ≤ 60 := by
        have : s'.1 + s'.2 ≤ 60 := by
          unfold qi_sh at hs
          dsimp only at hs
          repeat' split at hs
          all_goals (first | (cases hs; done) | (cases hs; dsimp only; omega))
        rw [g2] at this
        exact this
      obtain ⟨w2, b, e2, g3, g4, g5⟩ := qlm_work hx hcb he3 l n (i + 1) (ql_st nm (o, v) (vs, ts)).1 (ql_st nm (o, v) (vs, ts)).2 w1 (by omega) (by omega) (by rw [f3.1 86 (by omega)]; exact he) (fun j hj => by
        obtain ⟨m0, m1, m2⟩ := hc (j + 1) (by rw [List.length_cons]; omega)
        rw [f3.1 86 (by omega)]
        rw [show i + 1 + j = i + (j + 1) by omega]
        exact ⟨m0, m1, m2⟩) (fun q hq h => by rw [f3.1 89 (by omega)]; exact hnm q (List.mem_cons_of_mem _ hq) h) hl2 g1 f1 f2 (by rw [g2] at hr; exact hr)
      exact ⟨w2, b, e1.trans e2, g3, g4, f3.tr g5⟩
end
