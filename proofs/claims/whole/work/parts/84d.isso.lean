/-! THE HEART: the class asks a law -/
theorem ql_neg32 {X : Int32} (h : ql_sm X.toInt) : (-X).toInt = -X.toInt := by
  unfold ql_sm at h
  exact fb_negI (by omega)
theorem ql_not32 (b : Bool) : nI 1 - qs_b b = qs_b (!b) := by cases b <;> decide
theorem ql_and32 (b c : Bool) : qs_b b &&& qs_b c = qs_b (b && c) := by cases b <;> cases c <;> decide
theorem ql_or32 (b c : Bool) : qs_b b ||| qs_b c = qs_b (b || c) := by cases b <;> cases c <;> decide
theorem ql_below {c : Nat} (h : c < 20000) : (nI c - nI 20000 < nI 0) = True := eq_true (pk_sneg (by omega) h)
section
variable {nm : Nat → Int} {n x i e : Nat} {h : Nat → Nat → Int32}
theorem qlh_step {o v : Nat} {vs : List Int} {ts : List Bool} {s' : Nat × Nat} (hq : qi_okc (o, v)) (hs : qi_sh o (vs.length, ts.length) = some s') (hl : vs.length + ts.length ≤ 60) (hb : ql_bd vs) (hv : ql_si (h 61) ts.length vs) (ht : ql_sb (h 61) ts) (hx : x ≠ 61) (hie : i < e) (he3 : e ≤ 300) (c1 : h (x + 4) i = nI (qi_cd o v)) (hn : o = 1 → (h 60 (qi_nm v)).toInt = nm v) :
    ∃ f', zL_isSo_L32 (n + 1) x (nI (ts.length + vs.length)) (nI e) (nI i) h = zL_isSo_L32 n x (nI ((ql_st nm (o, v) (vs, ts)).2.length + (ql_st nm (o, v) (vs, ts)).1.length)) (nI e) (nI (i + 1)) (va_up h 61 f') ∧ ql_si f' (ql_st nm (o, v) (vs, ts)).2.length (ql_st nm (o, v) (vs, ts)).1 ∧ ql_sb f' (ql_st nm (o, v) (vs, ts)).2 := by
  unfold qi_sh at hs
  unfold ql_st
  dsimp only at hs ⊢
  rcases hq with ⟨h0, h1⟩ | ⟨h0, h1⟩ | ⟨h0, h1⟩
  · dsimp only at h0 h1
    subst h0
    have cd : qi_cd 0 v = v := rfl
    rw [cd] at c1
    refine ⟨upd (h 61) (ts.length + vs.length) (nI v), ?_, ?_, ?_⟩
    · simp (disch := omega) only [↓reduceIte, ↓qa_b, qa_b, qa_lit, qa_neg1, qa_qN, nI_add, pk_mul, qa_ix, qa_cl, qa_ltT, qa_ltF, qa_eqT, qa_eqF, qa_nN, qa_Nn, qa_ltN, qa_Nlt, qa_NN, qa_ltNN, qa_sub, qa_dec, qa_dec0, qa_sub0, qa_incN, qa_31, qa_shr, qa_shl, qa_and1, va_up_self, qa_une, pk_us, pk_un, qa_up2, qa_upd2, Option.bind_some, if_true, if_false, and_true, true_and, and_self, qa_f1, qa_f2, zL_isSo_L32, c1, ql_below, List.length_cons, Nat.add_assoc]
    · simp only [if_true]
      refine ⟨?_, ql_si_up (Nat.le_refl _) hv⟩
      rw [pk_us]
      exact nI_toInt (by omega)
    · simp only [if_true]
      exact ql_sb_up (by omega) ht
  · dsimp only at h0 h1
    subst h0
    have cd : qi_cd 1 v = 10000 + qi_nm v := rfl
    have nb : qi_nm v ≤ 20 := by
      unfold qi_nm
      split <;> (try split) <;> (try split) <;> (try split) <;> omega
    have cd2 : 10000 + qi_nm v - 10000 = qi_nm v := by omega
    rw [cd] at c1
    refine ⟨upd (h 61) (ts.length + vs.length) (h 60 (qi_nm v)), ?_, ?_, ?_⟩
    · simp (disch := omega) only [↓reduceIte, ↓qa_b, qa_b, qa_lit, qa_neg1, qa_qN, nI_add, pk_mul, qa_ix, qa_cl, qa_ltT, qa_ltF, qa_eqT, qa_eqF, qa_nN, qa_Nn, qa_ltN, qa_Nlt, qa_NN, qa_ltNN, qa_sub, qa_dec, qa_dec0, qa_sub0, qa_incN, qa_31, qa_shr, qa_shl, qa_and1, va_up_self, qa_une, pk_us, pk_un, qa_up2, qa_upd2, Option.bind_some, if_true, if_false, and_true, true_and, and_self, qa_f1, qa_f2, zL_isSo_L32, c1, ql_below, List.length_cons, Nat.add_assoc, cd2, Nat.one_ne_zero]
    · simp only [if_true, Nat.one_ne_zero, if_false]
      refine ⟨?_, ql_si_up (Nat.le_refl _) hv⟩
      rw [pk_us]
      exact hn rfl
    · simp only [if_true, Nat.one_ne_zero, if_false]
      exact ql_sb_up (by omega) ht
  dsimp only at h0 h1
  subst h0
  rw [if_neg (by omega)] at hs
  rw [if_neg (by omega), if_neg (by omega)]
  by_cases h2 : o = 2
  · subst h2
    have cd : qi_cd 2 0 = 20038 := rfl
    rw [cd] at c1
    rw [if_pos rfl] at hs ⊢
    split at hs
    · match vs, hv, hb, hl with
      | [], _, _, _ => rename_i hc; simp at hc
      | y :: vs, hv, hb, hl =>
        rw [List.length_cons] at hl
        have e1 : ts.length + (vs.length + 1) - 1 = ts.length + vs.length := by omega
        refine ⟨upd (h 61) (ts.length + vs.length) (-(h 61 (ts.length + vs.length))), ?_, ?_, ?_⟩
        · simp (disch := omega) only [↓reduceIte, ↓qa_b, qa_b, qa_lit, qa_neg1, qa_qN, nI_add, pk_mul, qa_ix, qa_cl, qa_ltT, qa_ltF, qa_eqT, qa_eqF, qa_nN, qa_Nn, qa_ltN, qa_Nlt, qa_NN, qa_ltNN, qa_sub, qa_dec, qa_dec0, qa_sub0, qa_incN, qa_31, qa_shr, qa_shl, qa_and1, va_up_self, qa_une, pk_us, pk_un, qa_up2, qa_upd2, Option.bind_some, if_true, if_false, and_true, true_and, and_self, qa_f1, qa_f2, zL_isSo_L32, zL_isSo_J103, zL_isSo_J116, c1, List.length_cons, e1]
        · refine ⟨?_, ql_si_up (Nat.le_refl _) hv.2⟩
          rw [pk_us, ql_neg32 (by rw [hv.1]; exact hb y List.mem_cons_self), hv.1]
        · exact ql_sb_up (ts := ts) (Nat.le_add_right _ _) ht
    · cases hs
  rw [if_neg h2] at hs ⊢
  by_cases h3 : o < 10
  · have cd : qi_cd o 0 = 20024 + o := by
      unfold qi_cd
      rw [if_neg (by omega), if_neg (by omega), if_neg (by omega), if_pos h3]
    have cd2 : 20024 + o - 20000 = 24 + o := by omega
    rw [cd] at c1
    rw [if_pos h3] at hs ⊢
    split at hs
    · match vs, hv, hb, hl with
      | [], _, _, _ => rename_i hc; simp at hc
      | [_], _, _, _ => rename_i hc; simp at hc
      | y :: z :: vs, hv, hb, hl =>
        rw [List.length_cons, List.length_cons] at hl
        have e1 : ts.length + (vs.length + 1 + 1) - 1 = ts.length + (vs.length + 1) := by omega
        have e2 : ts.length + (vs.length + 1) - 1 = ts.length + vs.length := by omega
        have v1 : (h 61 (ts.length + (vs.length + 1))).toInt = y := hv.1
        have v2 : (h 61 (ts.length + vs.length)).toInt = z := hv.2.1
        obtain ⟨r, hr1, hr2⟩ := ql_rk (o := o) (by omega) (by omega) (X := h 61 (ts.length + vs.length)) (Y := h 61 (ts.length + (vs.length + 1))) (by rw [v2]; exact hb z (List.mem_cons_of_mem _ List.mem_cons_self)) (by rw [v1]; exact hb y List.mem_cons_self)
        refine ⟨upd (h 61) (ts.length + vs.length) r, ?_, ?_, ?_⟩
        · simp (disch := omega) only [↓reduceIte, ↓qa_b, qa_b, qa_lit, qa_neg1, qa_qN, nI_add, pk_mul, qa_ix, qa_cl, qa_ltT, qa_ltF, qa_eqT, qa_eqF, qa_nN, qa_Nn, qa_ltN, qa_Nlt, qa_NN, qa_ltNN, qa_sub, qa_dec, qa_dec0, qa_sub0, qa_incN, qa_31, qa_shr, qa_shl, qa_and1, va_up_self, qa_une, pk_us, pk_un, qa_up2, qa_upd2, Option.bind_some, if_true, if_false, and_true, true_and, and_self, qa_f1, qa_f2, zL_isSo_L32, zL_isSo_J103, zL_isSo_J159, c1, List.length_cons, cd2, e1, e2, hr1]
        · refine ⟨?_, ql_si_up (Nat.le_refl _) hv.2.2⟩
          rw [pk_us, hr2, v1, v2]
        · exact ql_sb_up (ts := ts) (Nat.le_add_right _ _) ht
    · cases hs
  rw [if_neg h3] at hs ⊢
  by_cases h4 : o < 20
  · have cd : qi_cd o 0 = 20011 + o := by
      unfold qi_cd
      rw [if_neg (by omega), if_neg (by omega), if_neg (by omega), if_neg h3, if_pos h4]
    have cd2 : 20011 + o - 20000 = 11 + o := by omega
    rw [cd] at c1
    rw [if_pos h4] at hs ⊢
    split at hs
    · rename_i hc0
      match vs, hv, hb, hl with
      | [], _, _, _ => simp at hc0
      | [_], _, _, _ => simp at hc0
      | y :: z :: vs, hv, hb, hl =>
        have hv0 : vs = [] := by simpa using hc0
        subst hv0
        rw [List.length_cons, List.length_cons, List.length_nil] at hl
        have e1 : ts.length + (0 + 1 + 1) - 1 = ts.length + 1 := by omega
        have e2 : ts.length + 1 - 1 = ts.length := by omega
        have v1 : (h 61 (ts.length + 1)).toInt = y := hv.1
        have v2 : (h 61 ts.length).toInt = z := hv.2.1
        have hr := ql_rc (o := o) (by omega) (by omega) (h 61 ts.length) (h 61 (ts.length + 1))
        rw [v1, v2] at hr
        refine ⟨upd (h 61) ts.length (qs_b (ql_cp o z y)), ?_, trivial, ?_⟩
        · simp (disch := omega) only [↓reduceIte, ↓qa_b, qa_b, qa_lit, qa_neg1, qa_qN, nI_add, pk_mul, qa_ix, qa_cl, qa_ltT, qa_ltF, qa_eqT, qa_eqF, qa_nN, qa_Nn, qa_ltN, qa_Nlt, qa_NN, qa_ltNN, qa_sub, qa_dec, qa_dec0, qa_sub0, qa_incN, qa_31, qa_shr, qa_shl, qa_and1, va_up_self, qa_une, pk_us, pk_un, qa_up2, qa_upd2, Option.bind_some, if_true, if_false, and_true, true_and, and_self, qa_f1, qa_f2, zL_isSo_L32, zL_isSo_J103, zL_isSo_J159, c1, List.length_cons, List.length_nil, cd2, e1, e2, hr, Nat.add_zero]
        · refine ⟨?_, ql_sb_up (Nat.le_refl _) ht⟩
          rw [pk_us]
    · cases hs
  rw [if_neg h4] at hs ⊢
  have cd : qi_cd o 0 = 20022 - o := by
    unfold qi_cd
    rw [if_neg (by omega), if_neg (by omega), if_neg (by omega), if_neg h3, if_neg h4]
  rw [cd] at c1
  by_cases h5 : o = 20
  · subst h5
    rw [if_pos rfl] at hs ⊢
    split at hs
    · rename_i hc0
      match ts, ht, hl, hv with
      | [], _, _, _ => simp at hc0
      | b :: ts, ht, hl, hv =>
        have hv0 : vs = [] := by simpa using hc0.1
        subst hv0
        rw [List.length_cons, List.length_nil] at hl
        have e1 : ts.length + 1 - 1 = ts.length := by omega
        have v1 : h 61 ts.length = qs_b b := ht.1
        refine ⟨upd (h 61) ts.length (qs_b (!b)), ?_, trivial, ?_⟩
        · simp (disch := omega) only [↓reduceIte, ↓qa_b, qa_b, qa_lit, qa_neg1, qa_qN, nI_add, pk_mul, qa_ix, qa_cl, qa_ltT, qa_ltF, qa_eqT, qa_eqF, qa_nN, qa_Nn, qa_ltN, qa_Nlt, qa_NN, qa_ltNN, qa_sub, qa_dec, qa_dec0, qa_sub0, qa_incN, qa_31, qa_shr, qa_shl, qa_and1, va_up_self, qa_une, pk_us, pk_un, qa_up2, qa_upd2, Option.bind_some, if_true, if_false, and_true, true_and, and_self, qa_f1, qa_f2, zL_isSo_L32, zL_isSo_J103, zL_isSo_J116, c1, List.length_cons, List.length_nil, Nat.add_zero, e1, v1, ql_not32, Nat.reduceSub]
        · refine ⟨?_, ql_sb_up (Nat.le_refl _) ht.2⟩
          rw [pk_us]
    · cases hs
  rw [if_neg h5] at hs ⊢
  split at hs
  · rename_i hc0
    match ts, ht, hl, hv with
    | [], _, _, _ => simp at hc0
    | [_], _, _, _ => simp at hc0
    | c :: b :: ts, ht, hl, hv =>
      have hv0 : vs = [] := by simpa using hc0.1
      subst hv0
      rw [List.length_cons, List.length_cons, List.length_nil] at hl
      have e1 : ts.length + 1 + 1 - 1 = ts.length + 1 := by omega
      have e2 : ts.length + 1 - 1 = ts.length := by omega
      have v1 : h 61 (ts.length + 1) = qs_b c := ht.1
      have v2 : h 61 ts.length = qs_b b := ht.2.1
      by_cases h6 : o = 21
      · subst h6
        rw [if_pos rfl]
        refine ⟨upd (h 61) ts.length (qs_b (b && c)), ?_, trivial, ?_⟩
        · simp (disch := omega) only [↓reduceIte, ↓qa_b, qa_b, qa_lit, qa_neg1, qa_qN, nI_add, pk_mul, qa_ix, qa_cl, qa_ltT, qa_ltF, qa_eqT, qa_eqF, qa_nN, qa_Nn, qa_ltN, qa_Nlt, qa_NN, qa_ltNN, qa_sub, qa_dec, qa_dec0, qa_sub0, qa_incN, qa_31, qa_shr, qa_shl, qa_and1, va_up_self, qa_une, pk_us, pk_un, qa_up2, qa_upd2, Option.bind_some, if_true, if_false, and_true, true_and, and_self, qa_f1, qa_f2, zL_isSo_L32, zL_isSo_J103, zL_isSo_J159, zL_reckon, c1, List.length_cons, List.length_nil, Nat.add_zero, e1, e2, v1, v2, ql_and32, Nat.reduceSub]
        · refine ⟨?_, ql_sb_up (Nat.le_refl _) ht.2.2⟩
          rw [pk_us]
      · have h7 : o = 22 := by omega
        subst h7
        rw [if_neg (by omega)]
        refine ⟨upd (h 61) ts.length (qs_b (b || c)), ?_, trivial, ?_⟩
        · simp (disch := omega) only [↓reduceIte, ↓qa_b, qa_b, qa_lit, qa_neg1, qa_qN, nI_add, pk_mul, qa_ix, qa_cl, qa_ltT, qa_ltF, qa_eqT, qa_eqF, qa_nN, qa_Nn, qa_ltN, qa_Nlt, qa_NN, qa_ltNN, qa_sub, qa_dec, qa_dec0, qa_sub0, qa_incN, qa_31, qa_shr, qa_shl, qa_and1, va_up_self, qa_une, pk_us, pk_un, qa_up2, qa_upd2, Option.bind_some, if_true, if_false, and_true, true_and, and_self, qa_f1, qa_f2, zL_isSo_L32, zL_isSo_J103, zL_isSo_J159, zL_reckon, c1, List.length_cons, List.length_nil, Nat.add_zero, e1, e2, v1, v2, ql_or32, Nat.reduceSub]
        · refine ⟨?_, ql_sb_up (Nat.le_refl _) ht.2.2⟩
          rw [pk_us]
  · cases hs
/-- the class's loop over a law's codes -/
theorem qlh_work (hx : x ≤ 48) (he3 : e ≤ 300) : ∀ (l : List (Nat × Nat)) (n i : Nat) (vs : List Int) (ts : List Bool) (h : Nat → Nat → Int32), l.length < n → i + l.length = e → (∀ (j : Nat) (hj : j < l.length), qi_okc l[j] ∧ h (x + 4) (i + j) = nI (qi_cd l[j].1 l[j].2)) → (∀ q ∈ l, q.1 = 1 → (h 60 (qi_nm q.2)).toInt = nm q.2 ∧ ql_sm (nm q.2)) → vs.length + ts.length ≤ 60 → ql_bd vs → ql_si (h 61) ts.length vs → ql_sb (h 61) ts → qi_run l (vs.length, ts.length) = some (0, 1) →
    ∃ f' b, zL_isSo_L32 n x (nI (ts.length + vs.length)) (nI e) (nI i) h = some (qs_b b, va_up h 61 f') ∧ ql_ev nm l (vs, ts) = ([], [b])
  | [], n + 1, i, vs, ts, h, _, hi, _, _, _, _, hv, ht, hr => by
    have hr : (vs.length, ts.length) = (0, 1) := by simpa [qi_run] using hr
    have h1 : vs.length = 0 := congrArg Prod.fst hr
    have h2 : ts.length = 1 := congrArg Prod.snd hr
    match vs, ts, h1, h2, ht with
    | [], [b], _, _, ht =>
      rw [List.length_nil, Nat.add_zero] at hi
      have eq : va_up h 61 (h 61) = h := by funext j; unfold va_up; split <;> simp_all
      have v0 : h 61 0 = qs_b b := ht.1
      refine ⟨h 61, b, ?_, rfl⟩
      rw [eq]
      cases b
      · simp (disch := omega) only [↓reduceIte, ↓qa_b, qa_b, qa_lit, qa_neg1, qa_qN, nI_add, pk_mul, qa_ix, qa_cl, qa_ltT, qa_ltF, qa_eqT, qa_eqF, qa_nN, qa_Nn, qa_ltN, qa_Nlt, qa_NN, qa_ltNN, qa_sub, qa_dec, qa_dec0, qa_sub0, qa_incN, qa_31, qa_shr, qa_shl, qa_and1, va_up_self, qa_une, pk_us, pk_un, qa_up2, qa_upd2, Option.bind_some, if_true, if_false, and_true, true_and, and_self, qa_f1, qa_f2, zL_isSo_L32, v0, qs_b, Bool.false_eq_true]
      · simp (disch := omega) only [↓reduceIte, ↓qa_b, qa_b, qa_lit, qa_neg1, qa_qN, nI_add, pk_mul, qa_ix, qa_cl, qa_ltT, qa_ltF, qa_eqT, qa_eqF, qa_nN, qa_Nn, qa_ltN, qa_Nlt, qa_NN, qa_ltNN, qa_sub, qa_dec, qa_dec0, qa_sub0, qa_incN, qa_31, qa_shr, qa_shl, qa_and1, va_up_self, qa_une, pk_us, pk_un, qa_up2, qa_upd2, Option.bind_some, if_true, if_false, and_true, true_and, and_self, qa_f1, qa_f2, zL_isSo_L32, v0, qs_b]
  | q :: l, n + 1, i, vs, ts, h, hn, hi, hc, hnm, hl, hb, hv, ht, hr => by
    rw [List.length_cons] at hn hi
    obtain ⟨k0, k1⟩ := hc 0 (Nat.zero_lt_succ _)
    rw [Nat.add_zero] at k1
    obtain ⟨o, v⟩ := q
    unfold qi_run at hr
    cases hs : qi_sh o (vs.length, ts.length) with
    | none => rw [hs] at hr; cases hr
    | some s' =>
      rw [hs] at hr
      have hr : qi_run l s' = some (0, 1) := hr
      have hq0 := hnm (o, v) List.mem_cons_self
      obtain ⟨f1, e1, g1, g2⟩ := qlh_step (nm := nm) (n := n) (x := x) (i := i) (e := e) k0 hs hl hb hv ht (by omega) (by omega) he3 k1 (fun h => (hq0 h).1)
      obtain ⟨b1, b2⟩ := ql_step nm k0 (fun h => (hq0 h).2) hb hs
      have hl2 : (ql_st nm (o, v) (vs, ts)).1.length + (ql_st nm (o, v) (vs, ts)).2.length ≤ 60 := by
        have : s'.1 + s'.2 ≤ 60 := by
          unfold qi_sh at hs
          dsimp only at hs
          repeat' split at hs
          all_goals (first | (cases hs; done) | (cases hs; dsimp only; omega))
        rw [b2] at this
        exact this
      obtain ⟨f2, b, e2, g3⟩ := qlh_work hx he3 l n (i + 1) (ql_st nm (o, v) (vs, ts)).1 (ql_st nm (o, v) (vs, ts)).2 (va_up h 61 f1) (by omega) (by omega) (fun j hj => by
        obtain ⟨m0, m1⟩ := hc (j + 1) (by rw [List.length_cons]; omega)
        rw [qa_une _ _ (show x + 4 ≠ 61 by omega), show i + 1 + j = i + (j + 1) by omega]
        exact ⟨m0, m1⟩) (fun q hq h => by rw [qa_une _ _ (show 60 ≠ 61 by omega)]; exact hnm q (List.mem_cons_of_mem _ hq) h) hl2 b1 (by rw [va_up_self]; exact g1) (by rw [va_up_self]; exact g2) (by rw [b2] at hr; exact hr)
      refine ⟨f2, b, ?_, g3⟩
      rw [e1, e2, qa_up2]
end
