/-! THE HEART: a law's arithmetic, in longs and in ints -/
theorem ql_M : (1000000 : Int64).toInt = 1000000 := by decide
theorem ql_m : (-1000000 : Int64).toInt = -1000000 := by decide
theorem ql_clip (v : Int64) : (zM_clip v).toInt = ql_cl v.toInt := by
  unfold zM_clip ql_cl
  by_cases h1 : (1000000 : Int64) < v
  · rw [if_pos ((lg_cmp_gt _ _).mpr h1)]
    have := Int64.lt_iff_toInt_lt.mp h1
    rw [ql_M] at this
    rw [if_pos this]
    exact ql_M
  · rw [if_neg (fun q => h1 ((lg_cmp_gt _ _).mp q))]
    have n1 : ¬ 1000000 < v.toInt := fun q => h1 (Int64.lt_iff_toInt_lt.mpr (by rw [ql_M]; exact q))
    rw [if_neg n1]
    by_cases h2 : v < (-1000000 : Int64)
    · rw [if_pos ((lg_cmp_lt _ _).mpr h2)]
      have := Int64.lt_iff_toInt_lt.mp h2
      rw [ql_m] at this
      rw [if_pos this]
      exact ql_m
    · rw [if_neg (fun q => h2 ((lg_cmp_lt _ _).mp q))]
      have n2 : ¬ v.toInt < -1000000 := fun q => h2 (Int64.lt_iff_toInt_lt.mpr (by rw [ql_m]; exact q))
      rw [if_neg n2]
def ql_sm (x : Int) : Prop := -1000000 ≤ x ∧ x ≤ 1000000
theorem ql_mulbd {x y : Int} (hx : ql_sm x) (hy : ql_sm y) : -1000000000000 ≤ x * y ∧ x * y ≤ 1000000000000 := by
  obtain ⟨h1, h2⟩ := hx
  obtain ⟨h3, h4⟩ := hy
  have h5 : (x * y).natAbs ≤ 1000000 * 1000000 := by
    rw [Int.natAbs_mul]
    exact Nat.mul_le_mul (by omega) (by omega)
  omega
theorem ql_div64 {X Y : Int64} (hx : ql_sm X.toInt) (hy : Y.toInt ≠ 0) : (X / Y).toInt = X.toInt.tdiv Y.toInt := by
  rw [Int64.toInt_div]
  have := ql_tdiv_bd (y := Y.toInt) hx
  exact fb_bmodL (by omega) (by omega)
theorem ql_two {o : Nat} (h3 : 3 ≤ o) (h6 : o ≤ 6) {X Y : Int64} (hx : ql_sm X.toInt) (hy : ql_sm Y.toInt) : ∃ r, zM_two (nI o) X Y = some r ∧ r.toInt = ql_ar o X.toInt Y.toInt := by
  have bx := hx
  have bY := hy
  unfold ql_sm at hx hy
  unfold ql_ar
  rcases (show o = 3 ∨ o = 4 ∨ o = 5 ∨ o = 6 by omega) with rfl | rfl | rfl | rfl
  · refine ⟨zM_clip (X + Y), ?_, ?_⟩
    · simp (disch := omega) only [↓reduceIte, ↓qa_b, qa_b, qa_lit, qa_neg1, qa_qN, nI_add, pk_mul, qa_ix, qa_cl, qa_ltT, qa_ltF, qa_eqT, qa_eqF, qa_nN, qa_Nn, qa_ltN, qa_Nlt, qa_NN, qa_ltNN, qa_sub, qa_dec, qa_dec0, qa_sub0, qa_incN, qa_31, qa_shr, qa_shl, qa_and1, va_up_self, qa_une, pk_us, pk_un, qa_up2, qa_upd2, Option.bind_some, if_true, if_false, and_true, true_and, and_self, qa_f1, qa_f2, zM_two]
    · rw [ql_clip, fb_addL (by omega) (by omega), if_pos rfl]
  · refine ⟨zM_clip (X - Y), ?_, ?_⟩
    · simp (disch := omega) only [↓reduceIte, ↓qa_b, qa_b, qa_lit, qa_neg1, qa_qN, nI_add, pk_mul, qa_ix, qa_cl, qa_ltT, qa_ltF, qa_eqT, qa_eqF, qa_nN, qa_Nn, qa_ltN, qa_Nlt, qa_NN, qa_ltNN, qa_sub, qa_dec, qa_dec0, qa_sub0, qa_incN, qa_31, qa_shr, qa_shl, qa_and1, va_up_self, qa_une, pk_us, pk_un, qa_up2, qa_upd2, Option.bind_some, if_true, if_false, and_true, true_and, and_self, qa_f1, qa_f2, zM_two]
    · rw [ql_clip, fb_subL (by omega) (by omega), if_neg (by omega), if_pos rfl]
  · refine ⟨zM_clip (X * Y), ?_, ?_⟩
    · simp (disch := omega) only [↓reduceIte, ↓qa_b, qa_b, qa_lit, qa_neg1, qa_qN, nI_add, pk_mul, qa_ix, qa_cl, qa_ltT, qa_ltF, qa_eqT, qa_eqF, qa_nN, qa_Nn, qa_ltN, qa_Nlt, qa_NN, qa_ltNN, qa_sub, qa_dec, qa_dec0, qa_sub0, qa_incN, qa_31, qa_shr, qa_shl, qa_and1, va_up_self, qa_une, pk_us, pk_un, qa_up2, qa_upd2, Option.bind_some, if_true, if_false, and_true, true_and, and_self, qa_f1, qa_f2, zM_two]
    · have hm := ql_mulbd bx bY
      rw [ql_clip, fb_mulL (by omega) (by omega), if_neg (by omega), if_neg (by omega), if_pos rfl]
  · by_cases h0 : Y = 0
    · have z : Y.toInt = 0 := by rw [h0]; decide
      refine ⟨0, ?_, ?_⟩
      · unfold zM_two
        rw [if_neg (by decide), if_neg (by decide), if_neg (by decide), if_pos ((lg_cmp_eq _ _).mpr h0)]
      · rw [if_neg (by omega), if_neg (by omega), if_neg (by omega), if_pos z]; decide
    · have z : Y.toInt ≠ 0 := fun q => h0 (Int64.toInt_inj.mp (by rw [q]; decide))
      refine ⟨zM_clip (X / Y), ?_, ?_⟩
      · unfold zM_two am_no
        rw [if_neg (by decide), if_neg (by decide), if_neg (by decide), if_neg (fun q => h0 ((lg_cmp_eq _ _).mp q)), if_neg h0]
        rfl
      · have hd := ql_tdiv_bd (y := Y.toInt) bx
        rw [ql_clip, ql_div64 bx z, if_neg (by omega), if_neg (by omega), if_neg (by omega), if_neg z]
        unfold ql_cl
        rw [if_neg (by omega), if_neg (by omega)]
theorem ql_asked {o : Nat} (h3 : 10 ≤ o) (h6 : o ≤ 15) (X Y : Int64) : zM_isAsked (nI o) X Y = qs_b (ql_cp o X.toInt Y.toInt) := by
  unfold zM_isAsked ql_cp qs_b
  have l1 : lg_cmp X Y < 0 ↔ X.toInt < Y.toInt := (lg_cmp_lt _ _).trans Int64.lt_iff_toInt_lt
  have l2 : 0 < lg_cmp X Y ↔ Y.toInt < X.toInt := (lg_cmp_gt _ _).trans Int64.lt_iff_toInt_lt
  have l3 : lg_cmp X Y = 0 ↔ X.toInt = Y.toInt := (lg_cmp_eq _ _).trans Int64.toInt_inj.symm
  simp only [l1, l2, l3]
  rcases (show o = 10 ∨ o = 11 ∨ o = 12 ∨ o = 13 ∨ o = 14 ∨ o = 15 by omega) with rfl | rfl | rfl | rfl | rfl | rfl
  · simp only [qa_lit, if_true, decide_eq_true_eq]
  · simp (disch := omega) only [qa_lit, qa_eqF, if_true, if_false, decide_eq_true_eq, Nat.reduceEqDiff]
    by_cases h : Y.toInt < X.toInt
    · rw [if_pos h, if_neg (by omega)]
    · rw [if_neg h, if_pos (by omega)]
  · simp (disch := omega) only [qa_lit, qa_eqF, if_true, if_false, decide_eq_true_eq, Nat.reduceEqDiff]
  · simp (disch := omega) only [qa_lit, qa_eqF, if_true, if_false, decide_eq_true_eq, Nat.reduceEqDiff]
    by_cases h : X.toInt < Y.toInt
    · rw [if_pos h, if_neg (by omega)]
    · rw [if_neg h, if_pos (by omega)]
  · simp (disch := omega) only [qa_lit, qa_eqF, if_true, if_false, decide_eq_true_eq, Nat.reduceEqDiff]
  · simp (disch := omega) only [qa_lit, qa_eqF, if_true, if_false, decide_eq_true_eq, Nat.reduceEqDiff]
    by_cases h : X.toInt = Y.toInt
    · rw [if_pos h, if_neg (fun q => q h)]
    · rw [if_neg h, if_pos h]
theorem ql_cut (v : Int64) : (zL_cut v).toInt = ql_cl v.toInt := by
  have key : ∀ u : Int64, ql_sm u.toInt → (u.toInt32).toInt = u.toInt := fun u hu => by
    unfold ql_sm at hu
    rw [Int64.toInt_toInt32]
    exact fb_bmod (by omega) (by omega)
  unfold zL_cut zD_minL zD_maxL ql_cl
  dsimp only [am_b]
  by_cases h1 : (1000000 : Int64) < v
  · have := Int64.lt_iff_toInt_lt.mp h1
    rw [ql_M] at this
    have c1 : ¬ 0 < lg_cmp 1000000 v := fun q => by
      have := Int64.lt_iff_toInt_lt.mp ((lg_cmp_gt _ _).mp q)
      rw [ql_M] at this
      omega
    rw [if_neg c1, if_pos this]
    decide
  · have n1 : ¬ 1000000 < v.toInt := fun q => h1 (Int64.lt_iff_toInt_lt.mpr (by rw [ql_M]; exact q))
    have e : (if 0 < lg_cmp 1000000 v then v else 1000000) = v := by
      by_cases c1 : 0 < lg_cmp 1000000 v
      · rw [if_pos c1]
      · rw [if_neg c1]
        apply Int64.toInt_inj.mp
        have : ¬ v.toInt < 1000000 := fun q => c1 ((lg_cmp_gt _ _).mpr (Int64.lt_iff_toInt_lt.mpr (by rw [ql_M]; exact q)))
        rw [ql_M]
        omega
    rw [e, if_neg n1]
    by_cases h2 : v.toInt < -1000000
    · rw [if_pos h2]
      have c2 : ¬ lg_cmp (-1000000) v < 0 := fun q => by
        have := Int64.lt_iff_toInt_lt.mp ((lg_cmp_lt _ _).mp q)
        rw [ql_m] at this
        omega
      rw [if_neg c2]
      decide
    · rw [if_neg h2]
      have e2 : (if lg_cmp (-1000000) v < 0 then v else -1000000) = v := by
        by_cases c1 : lg_cmp (-1000000) v < 0
        · rw [if_pos c1]
        · rw [if_neg c1]
          apply Int64.toInt_inj.mp
          have : ¬ -1000000 < v.toInt := fun q => c1 ((lg_cmp_lt _ _).mpr (Int64.lt_iff_toInt_lt.mpr (by rw [ql_m]; exact q)))
          rw [ql_m]
          omega
      rw [e2]
      exact key v (by unfold ql_sm; omega)
theorem ql_rk {o : Nat} (h3 : 3 ≤ o) (h6 : o ≤ 6) {X Y : Int32} (hx : ql_sm X.toInt) (hy : ql_sm Y.toInt) : ∃ r, zL_reckon (nI (24 + o)) X Y = some r ∧ r.toInt = ql_ar o X.toInt Y.toInt := by
  have bx := hx
  have bY := hy
  unfold ql_sm at hx hy
  unfold ql_ar
  rcases (show o = 3 ∨ o = 4 ∨ o = 5 ∨ o = 6 by omega) with rfl | rfl | rfl | rfl
  · refine ⟨zL_cut ((X + Y).toInt64), ?_, ?_⟩
    · simp (disch := omega) only [↓reduceIte, ↓qa_b, qa_b, qa_lit, qa_neg1, qa_qN, nI_add, pk_mul, qa_ix, qa_cl, qa_ltT, qa_ltF, qa_eqT, qa_eqF, qa_nN, qa_Nn, qa_ltN, qa_Nlt, qa_NN, qa_ltNN, qa_sub, qa_dec, qa_dec0, qa_sub0, qa_incN, qa_31, qa_shr, qa_shl, qa_and1, va_up_self, qa_une, pk_us, pk_un, qa_up2, qa_upd2, Option.bind_some, if_true, if_false, and_true, true_and, and_self, qa_f1, qa_f2, zL_reckon]
    · rw [ql_cut, Int32.toInt_toInt64, fb_addI (by omega) (by omega), if_pos rfl]
  · refine ⟨zL_cut ((X - Y).toInt64), ?_, ?_⟩
    · simp (disch := omega) only [↓reduceIte, ↓qa_b, qa_b, qa_lit, qa_neg1, qa_qN, nI_add, pk_mul, qa_ix, qa_cl, qa_ltT, qa_ltF, qa_eqT, qa_eqF, qa_nN, qa_Nn, qa_ltN, qa_Nlt, qa_NN, qa_ltNN, qa_sub, qa_dec, qa_dec0, qa_sub0, qa_incN, qa_31, qa_shr, qa_shl, qa_and1, va_up_self, qa_une, pk_us, pk_un, qa_up2, qa_upd2, Option.bind_some, if_true, if_false, and_true, true_and, and_self, qa_f1, qa_f2, zL_reckon]
    · rw [ql_cut, Int32.toInt_toInt64, fb_subI (by omega) (by omega), if_neg (by omega), if_pos rfl]
  · refine ⟨zL_cut (X.toInt64 * Y.toInt64), ?_, ?_⟩
    · simp (disch := omega) only [↓reduceIte, ↓qa_b, qa_b, qa_lit, qa_neg1, qa_qN, nI_add, pk_mul, qa_ix, qa_cl, qa_ltT, qa_ltF, qa_eqT, qa_eqF, qa_nN, qa_Nn, qa_ltN, qa_Nlt, qa_NN, qa_ltNN, qa_sub, qa_dec, qa_dec0, qa_sub0, qa_incN, qa_31, qa_shr, qa_shl, qa_and1, va_up_self, qa_une, pk_us, pk_un, qa_up2, qa_upd2, Option.bind_some, if_true, if_false, and_true, true_and, and_self, qa_f1, qa_f2, zL_reckon]
    · have hm := ql_mulbd bx bY
      rw [ql_cut, fb_mulL (by rw [Int32.toInt_toInt64, Int32.toInt_toInt64]; omega) (by rw [Int32.toInt_toInt64, Int32.toInt_toInt64]; omega), Int32.toInt_toInt64, Int32.toInt_toInt64, if_neg (by omega), if_neg (by omega), if_pos rfl]
  · by_cases h0 : Y = nI 0
    · have z : Y.toInt = 0 := by rw [h0]; decide
      refine ⟨nI 0, ?_, ?_⟩
      · simp (disch := omega) only [↓reduceIte, ↓qa_b, qa_b, qa_lit, qa_neg1, qa_qN, nI_add, pk_mul, qa_ix, qa_cl, qa_ltT, qa_ltF, qa_eqT, qa_eqF, qa_nN, qa_Nn, qa_ltN, qa_Nlt, qa_NN, qa_ltNN, qa_sub, qa_dec, qa_dec0, qa_sub0, qa_incN, qa_31, qa_shr, qa_shl, qa_and1, va_up_self, qa_une, pk_us, pk_un, qa_up2, qa_upd2, Option.bind_some, if_true, if_false, and_true, true_and, and_self, qa_f1, qa_f2, zL_reckon, h0]
      · rw [if_neg (by omega), if_neg (by omega), if_neg (by omega), if_pos z]; decide
    · have z : Y.toInt ≠ 0 := fun q => h0 (Int32.toInt_inj.mp (by rw [q]; decide))
      refine ⟨X / Y, ?_, ?_⟩
      · simp (disch := omega) only [↓reduceIte, ↓qa_b, qa_b, qa_lit, qa_neg1, qa_qN, nI_add, pk_mul, qa_ix, qa_cl, qa_ltT, qa_ltF, qa_eqT, qa_eqF, qa_nN, qa_Nn, qa_ltN, qa_Nlt, qa_NN, qa_ltNN, qa_sub, qa_dec, qa_dec0, qa_sub0, qa_incN, qa_31, qa_shr, qa_shl, qa_and1, va_up_self, qa_une, pk_us, pk_un, qa_up2, qa_upd2, Option.bind_some, if_true, if_false, and_true, true_and, and_self, qa_f1, qa_f2, zL_reckon, am_no, h0]
      · have hd := ql_tdiv_bd (y := Y.toInt) bx
        rw [Int32.toInt_div, fb_bmod (by omega) (by omega), if_neg (by omega), if_neg (by omega), if_neg (by omega), if_neg z]
theorem ql_rc {o : Nat} (h3 : 10 ≤ o) (h6 : o ≤ 15) (X Y : Int32) : zL_reckon (nI (11 + o)) X Y = some (qs_b (ql_cp o X.toInt Y.toInt)) := by
  unfold ql_cp qs_b
  have l1 : X < Y ↔ X.toInt < Y.toInt := Int32.lt_iff_toInt_lt
  have l2 : Y < X ↔ Y.toInt < X.toInt := Int32.lt_iff_toInt_lt
  have l3 : X = Y ↔ X.toInt = Y.toInt := Int32.toInt_inj.symm
  rcases (show o = 10 ∨ o = 11 ∨ o = 12 ∨ o = 13 ∨ o = 14 ∨ o = 15 by omega) with rfl | rfl | rfl | rfl | rfl | rfl
  · simp (disch := omega) only [↓reduceIte, ↓qa_b, qa_b, qa_lit, qa_neg1, qa_qN, nI_add, pk_mul, qa_ix, qa_cl, qa_ltT, qa_ltF, qa_eqT, qa_eqF, qa_nN, qa_Nn, qa_ltN, qa_Nlt, qa_NN, qa_ltNN, qa_sub, qa_dec, qa_dec0, qa_sub0, qa_incN, qa_31, qa_shr, qa_shl, qa_and1, va_up_self, qa_une, pk_us, pk_un, qa_up2, qa_upd2, Option.bind_some, if_true, if_false, and_true, true_and, and_self, qa_f1, qa_f2, zL_reckon, l1, decide_eq_true_eq]
    split <;> rfl
  · simp (disch := omega) only [↓reduceIte, ↓qa_b, qa_b, qa_lit, qa_neg1, qa_qN, nI_add, pk_mul, qa_ix, qa_cl, qa_ltT, qa_ltF, qa_eqT, qa_eqF, qa_nN, qa_Nn, qa_ltN, qa_Nlt, qa_NN, qa_ltNN, qa_sub, qa_dec, qa_dec0, qa_sub0, qa_incN, qa_31, qa_shr, qa_shl, qa_and1, va_up_self, qa_une, pk_us, pk_un, qa_up2, qa_upd2, Option.bind_some, if_true, if_false, and_true, true_and, and_self, qa_f1, qa_f2, zL_reckon, l2, decide_eq_true_eq, Nat.reduceEqDiff]
    by_cases h : Y.toInt < X.toInt
    · rw [if_pos h, if_neg (by omega)]
    · rw [if_neg h, if_pos (by omega)]
  · simp (disch := omega) only [↓reduceIte, ↓qa_b, qa_b, qa_lit, qa_neg1, qa_qN, nI_add, pk_mul, qa_ix, qa_cl, qa_ltT, qa_ltF, qa_eqT, qa_eqF, qa_nN, qa_Nn, qa_ltN, qa_Nlt, qa_NN, qa_ltNN, qa_sub, qa_dec, qa_dec0, qa_sub0, qa_incN, qa_31, qa_shr, qa_shl, qa_and1, va_up_self, qa_une, pk_us, pk_un, qa_up2, qa_upd2, Option.bind_some, if_true, if_false, and_true, true_and, and_self, qa_f1, qa_f2, zL_reckon, l2, decide_eq_true_eq, Nat.reduceEqDiff]
    split <;> rfl
  · simp (disch := omega) only [↓reduceIte, ↓qa_b, qa_b, qa_lit, qa_neg1, qa_qN, nI_add, pk_mul, qa_ix, qa_cl, qa_ltT, qa_ltF, qa_eqT, qa_eqF, qa_nN, qa_Nn, qa_ltN, qa_Nlt, qa_NN, qa_ltNN, qa_sub, qa_dec, qa_dec0, qa_sub0, qa_incN, qa_31, qa_shr, qa_shl, qa_and1, va_up_self, qa_une, pk_us, pk_un, qa_up2, qa_upd2, Option.bind_some, if_true, if_false, and_true, true_and, and_self, qa_f1, qa_f2, zL_reckon, l1, decide_eq_true_eq, Nat.reduceEqDiff]
    by_cases h : X.toInt < Y.toInt
    · rw [if_pos h, if_neg (by omega)]
    · rw [if_neg h, if_pos (by omega)]
  · simp (disch := omega) only [↓reduceIte, ↓qa_b, qa_b, qa_lit, qa_neg1, qa_qN, nI_add, pk_mul, qa_ix, qa_cl, qa_ltT, qa_ltF, qa_eqT, qa_eqF, qa_nN, qa_Nn, qa_ltN, qa_Nlt, qa_NN, qa_ltNN, qa_sub, qa_dec, qa_dec0, qa_sub0, qa_incN, qa_31, qa_shr, qa_shl, qa_and1, va_up_self, qa_une, pk_us, pk_un, qa_up2, qa_upd2, Option.bind_some, if_true, if_false, and_true, true_and, and_self, qa_f1, qa_f2, zL_reckon, l3, decide_eq_true_eq, Nat.reduceEqDiff]
    split <;> rfl
  · simp (disch := omega) only [↓reduceIte, ↓qa_b, qa_b, qa_lit, qa_neg1, qa_qN, nI_add, pk_mul, qa_ix, qa_cl, qa_ltT, qa_ltF, qa_eqT, qa_eqF, qa_nN, qa_Nn, qa_ltN, qa_Nlt, qa_NN, qa_ltNN, qa_sub, qa_dec, qa_dec0, qa_sub0, qa_incN, qa_31, qa_shr, qa_shl, qa_and1, va_up_self, qa_une, pk_us, pk_un, qa_up2, qa_upd2, Option.bind_some, if_true, if_false, and_true, true_and, and_self, qa_f1, qa_f2, zL_reckon, l3, decide_eq_true_eq, Nat.reduceEqDiff]
    by_cases h : X.toInt = Y.toInt
    · rw [if_pos h, if_neg (fun q => q h)]
    · rw [if_neg h, if_pos h]
