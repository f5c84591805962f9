/-! THE HEART: feed, end, fault, by, at, hold, held -/
theorem qf_nat (y : Int32) : y.toInt = if y.toBitVec.toNat < 2147483648 then (y.toBitVec.toNat : Int) else (y.toBitVec.toNat : Int) - 4294967296 := by
  have e : y.toInt = y.toBitVec.toInt := rfl
  rw [e, BitVec.toInt_eq_toNat_cond]
  by_cases h : y.toBitVec.toNat < 2147483648
  · rw [if_pos h, if_pos (by omega)]
  · rw [if_neg h, if_neg (by omega)]; rfl
theorem qf_and (x : Int32) : x &&& nI 255 = nI (x.toBitVec.toNat % 256) := pk_and x 8 (by decide)
theorem qf_byte (v : Int32) (s : Nat) (hs : s = 24 ∨ s = 16 ∨ s = 8 ∨ s = 0) : ((v.toUInt32 >>> ((nI s).toUInt32 &&& (nI 31).toUInt32)).toInt32) &&& nI 255 = (v >>> nI s) &&& nI 255 := by
  rw [qf_and, qf_and]
  have h1 : (v >>> nI s).toInt = v.toInt / 2 ^ s := by
    rw [pk_shr v (nI s) s (qa_smod s (by omega)), Int.shiftRight_eq_div_pow]
    norm_cast
  have h2 := qf_nat (v >>> nI s)
  have h3 := qf_nat v
  have h4 : (v.toUInt32 >>> ((nI s).toUInt32 &&& (nI 31).toUInt32)).toInt32.toBitVec.toNat = v.toBitVec.toNat / 2 ^ s := pk_ushr v (nI s) s (by rcases hs with rfl | rfl | rfl | rfl <;> decide)
  rw [h4]
  have h5 : v.toBitVec.toNat < 4294967296 := v.toBitVec.isLt
  have h6 : (v >>> nI s).toBitVec.toNat < 4294967296 := (v >>> nI s).toBitVec.isLt
  generalize v.toBitVec.toNat = a at *
  generalize (v >>> nI s).toBitVec.toNat = b at *
  generalize (v >>> nI s).toInt = c at *
  generalize v.toInt = d at *
  congr 1
  rcases hs with rfl | rfl | rfl | rfl
  · have e : (2 : Int) ^ 24 = 16777216 := by decide
    have e' : (2 : Nat) ^ 24 = 16777216 := by decide
    rw [e] at h1; rw [e']
    split at h2 <;> split at h3 <;> omega
  · have e : (2 : Int) ^ 16 = 65536 := by decide
    have e' : (2 : Nat) ^ 16 = 65536 := by decide
    rw [e] at h1; rw [e']
    split at h2 <;> split at h3 <;> omega
  · have e : (2 : Int) ^ 8 = 256 := by decide
    have e' : (2 : Nat) ^ 8 = 256 := by decide
    rw [e] at h1; rw [e']
    split at h2 <;> split at h3 <;> omega
  · have e : (2 : Int) ^ 0 = 1 := by decide
    have e' : (2 : Nat) ^ 0 = 1 := by decide
    rw [e] at h1; rw [e']
    split at h2 <;> split at h3 <;> omega
theorem qf_8a : nI 24 + -(nI 8) = nI 16 := by decide
theorem qf_8b : nI 16 + -(nI 8) = nI 8 := by decide
theorem qf_8c : nI 8 + -(nI 8) = nI 0 := by decide
theorem qf_8d : nI 0 + -(nI 8) = -(nI 8) := by decide
theorem qf_8e : (-(nI 8) < nI 0) = True := eq_true (by decide)
theorem qf_rng (v : Int32) : ∃ x, x < 256 ∧ v &&& nI 255 = nI x := ⟨_, Nat.mod_lt _ (by omega), qf_and v⟩
/-- the tapes alone -/
def qf_tape (tl : Nat) (h : Nat → Nat → Int32) (w : zHM) : Prop := w.1 83 5 = nI tl ∧ h 56 1 = nI tl ∧ tl ≤ 300 ∧ ∀ j, j < tl → h 57 j = w.1 87 j ∧ ∃ x, x < 256 ∧ w.1 87 j = nI x
def qf_fr (h : Nat → Nat → Int32) (w : zHM) (h' : Nat → Nat → Int32) (w' : zHM) : Prop := (∀ c, c ≠ 56 → c ≠ 57 → h' c = h c) ∧ (∀ c, c ≠ 83 → c ≠ 87 → w'.1 c = w.1 c) ∧ (∀ j, j ≠ 5 → w'.1 83 j = w.1 83 j)
theorem qf_one {tl s : Nat} {h : Nat → Nat → Int32} {w : zHM} (H : qf_tape tl h w) (ht : tl < 300) (v : Int32) (hs : s = 24 ∨ s = 16 ∨ s = 8 ∨ s = 0) : ∃ h1 w1, (∀ n, zT_add_L3 (n + 1) v (nI s) h = zT_add_L3 n v (nI s + -(nI 8)) h1) ∧ (∀ n, zM_four_L3 (n + 1) v (nI s) w = zM_four_L3 n v (nI s + -(nI 8)) w1) ∧ qf_tape (tl + 1) h1 w1 ∧ qf_fr h w h1 w1 := by
  obtain ⟨g1, g2, g3, g4⟩ := H
  have eb := qf_byte v s hs
  obtain ⟨x, hx, ex⟩ := qf_rng (v >>> nI s)
  rw [ex] at eb
  refine ⟨va_up (va_up h 57 (upd (h 57) tl (nI x))) 56 (upd (h 56) 1 (nI (tl + 1))), (va_up (va_up w.1 87 (upd (w.1 87) tl (nI x))) 83 (upd (w.1 83) 5 (nI (tl + 1))), w.2), fun n => ?_, fun n => ?_, ⟨?_, ?_, by omega, fun j hj => ?_⟩, fun c h1 h2 => ?_, fun c h1 h2 => ?_, fun j hj => ?_⟩
  · simp (disch := omega) only [qa_b, qa_lit, qa_neg1, qa_qN, nI_add, pk_mul, qa_ix, qa_cl, qa_ltT, qa_ltF, qa_eqT, qa_eqF, qa_nN, qa_Nn, qa_ltN, qa_Nlt, qa_NN, qa_ltNN, qa_sub, qa_dec, qa_dec0, qa_sub0, qa_incN, qa_31, qa_shr, qa_shl, qa_and1, va_up_self, qa_une, pk_us, pk_un, qa_up2, qa_upd2, Option.bind_some, if_true, if_false, and_true, true_and, and_self, qa_f1, qa_f2, zT_add_L3, g2, eb]
  · simp (disch := omega) only [qa_b, qa_lit, qa_neg1, qa_qN, nI_add, pk_mul, qa_ix, qa_cl, qa_ltT, qa_ltF, qa_eqT, qa_eqF, qa_nN, qa_Nn, qa_ltN, qa_Nlt, qa_NN, qa_ltNN, qa_sub, qa_dec, qa_dec0, qa_sub0, qa_incN, qa_31, qa_shr, qa_shl, qa_and1, va_up_self, qa_une, pk_us, pk_un, qa_up2, qa_upd2, Option.bind_some, if_true, if_false, and_true, true_and, and_self, qa_f1, qa_f2, zM_four_L3, g1, ex]
  · simp (disch := omega) only [qa_b, qa_lit, qa_neg1, qa_qN, nI_add, pk_mul, qa_ix, qa_cl, qa_ltT, qa_ltF, qa_eqT, qa_eqF, qa_nN, qa_Nn, qa_ltN, qa_Nlt, qa_NN, qa_ltNN, qa_sub, qa_dec, qa_dec0, qa_sub0, qa_incN, qa_31, qa_shr, qa_shl, qa_and1, va_up_self, qa_une, pk_us, pk_un, qa_up2, qa_upd2, Option.bind_some, if_true, if_false, and_true, true_and, and_self, qa_f1, qa_f2]
  · simp (disch := omega) only [qa_b, qa_lit, qa_neg1, qa_qN, nI_add, pk_mul, qa_ix, qa_cl, qa_ltT, qa_ltF, qa_eqT, qa_eqF, qa_nN, qa_Nn, qa_ltN, qa_Nlt, qa_NN, qa_ltNN, qa_sub, qa_dec, qa_dec0, qa_sub0, qa_incN, qa_31, qa_shr, qa_shl, qa_and1, va_up_self, qa_une, pk_us, pk_un, qa_up2, qa_upd2, Option.bind_some, if_true, if_false, and_true, true_and, and_self, qa_f1, qa_f2]
  · by_cases hq : j = tl
    · subst hq
      simp (disch := omega) only [qa_b, qa_lit, qa_neg1, qa_qN, nI_add, pk_mul, qa_ix, qa_cl, qa_ltT, qa_ltF, qa_eqT, qa_eqF, qa_nN, qa_Nn, qa_ltN, qa_Nlt, qa_NN, qa_ltNN, qa_sub, qa_dec, qa_dec0, qa_sub0, qa_incN, qa_31, qa_shr, qa_shl, qa_and1, va_up_self, qa_une, pk_us, pk_un, qa_up2, qa_upd2, Option.bind_some, if_true, if_false, and_true, true_and, and_self, qa_f1, qa_f2]
      exact ⟨x, hx, rfl⟩
    · simp (disch := omega) only [qa_b, qa_lit, qa_neg1, qa_qN, nI_add, pk_mul, qa_ix, qa_cl, qa_ltT, qa_ltF, qa_eqT, qa_eqF, qa_nN, qa_Nn, qa_ltN, qa_Nlt, qa_NN, qa_ltNN, qa_sub, qa_dec, qa_dec0, qa_sub0, qa_incN, qa_31, qa_shr, qa_shl, qa_and1, va_up_self, qa_une, pk_us, pk_un, qa_up2, qa_upd2, Option.bind_some, if_true, if_false, and_true, true_and, and_self, qa_f1, qa_f2]
      exact g4 j (by omega)
  · simp (disch := omega) only [qa_b, qa_lit, qa_neg1, qa_qN, nI_add, pk_mul, qa_ix, qa_cl, qa_ltT, qa_ltF, qa_eqT, qa_eqF, qa_nN, qa_Nn, qa_ltN, qa_Nlt, qa_NN, qa_ltNN, qa_sub, qa_dec, qa_dec0, qa_sub0, qa_incN, qa_31, qa_shr, qa_shl, qa_and1, va_up_self, qa_une, pk_us, pk_un, qa_up2, qa_upd2, Option.bind_some, if_true, if_false, and_true, true_and, and_self, qa_f1, qa_f2]
  · simp (disch := omega) only [qa_b, qa_lit, qa_neg1, qa_qN, nI_add, pk_mul, qa_ix, qa_cl, qa_ltT, qa_ltF, qa_eqT, qa_eqF, qa_nN, qa_Nn, qa_ltN, qa_Nlt, qa_NN, qa_ltNN, qa_sub, qa_dec, qa_dec0, qa_sub0, qa_incN, qa_31, qa_shr, qa_shl, qa_and1, va_up_self, qa_une, pk_us, pk_un, qa_up2, qa_upd2, Option.bind_some, if_true, if_false, and_true, true_and, and_self, qa_f1, qa_f2]
  · simp (disch := omega) only [qa_b, qa_lit, qa_neg1, qa_qN, nI_add, pk_mul, qa_ix, qa_cl, qa_ltT, qa_ltF, qa_eqT, qa_eqF, qa_nN, qa_Nn, qa_ltN, qa_Nlt, qa_NN, qa_ltNN, qa_sub, qa_dec, qa_dec0, qa_sub0, qa_incN, qa_31, qa_shr, qa_shl, qa_and1, va_up_self, qa_une, pk_us, pk_un, qa_up2, qa_upd2, Option.bind_some, if_true, if_false, and_true, true_and, and_self, qa_f1, qa_f2]
theorem qf_fr.tr {h h' h'' : Nat → Nat → Int32} {w w' w'' : zHM} (a : qf_fr h w h' w') (b : qf_fr h' w' h'' w'') : qf_fr h w h'' w'' := ⟨fun c h1 h2 => (b.1 c h1 h2).trans (a.1 c h1 h2), fun c h1 h2 => (b.2.1 c h1 h2).trans (a.2.1 c h1 h2), fun j hj => (b.2.2 j hj).trans (a.2.2 j hj)⟩
theorem qf_both {tl : Nat} {h : Nat → Nat → Int32} {w : zHM} (H : qf_tape tl h w) (ht : tl + 4 ≤ 300) (v : Int32) : ∃ h' w', zT_add v h = some h' ∧ zM_four v w = some w' ∧ qf_tape (tl + 4) h' w' ∧ qf_fr h w h' w' := by
  obtain ⟨h1, w1, a1, b1, c1, d1⟩ := qf_one H (by omega) v (s := 24) (by omega)
  obtain ⟨h2, w2, a2, b2, c2, d2⟩ := qf_one c1 (by omega) v (s := 16) (by omega)
  obtain ⟨h3, w3, a3, b3, c3, d3⟩ := qf_one c2 (by omega) v (s := 8) (by omega)
  obtain ⟨h4, w4, a4, b4, c4, d4⟩ := qf_one c3 (by omega) v (s := 0) (by omega)
  rw [qf_8a] at a1 b1
  rw [qf_8b] at a2 b2
  rw [qf_8c] at a3 b3
  rw [qf_8d] at a4 b4
  have e : am_N = 999995 + 1 + 1 + 1 + 1 + 1 := by decide
  have f1 : ∀ n, zT_add_L3 (n + 1) v (-(nI 8)) h4 = some h4 := fun n => by
    simp (disch := omega) only [qa_b, qa_lit, qa_neg1, qa_qN, nI_add, pk_mul, qa_ix, qa_cl, qa_ltT, qa_ltF, qa_eqT, qa_eqF, qa_nN, qa_Nn, qa_ltN, qa_Nlt, qa_NN, qa_ltNN, qa_sub, qa_dec, qa_dec0, qa_sub0, qa_incN, qa_31, qa_shr, qa_shl, qa_and1, va_up_self, qa_une, pk_us, pk_un, qa_up2, qa_upd2, Option.bind_some, if_true, if_false, and_true, true_and, and_self, qa_f1, qa_f2, zT_add_L3, qf_8e]
  have f2 : ∀ n, zM_four_L3 (n + 1) v (-(nI 8)) w4 = some w4 := fun n => by
    simp (disch := omega) only [qa_b, qa_lit, qa_neg1, qa_qN, nI_add, pk_mul, qa_ix, qa_cl, qa_ltT, qa_ltF, qa_eqT, qa_eqF, qa_nN, qa_Nn, qa_ltN, qa_Nlt, qa_NN, qa_ltNN, qa_sub, qa_dec, qa_dec0, qa_sub0, qa_incN, qa_31, qa_shr, qa_shl, qa_and1, va_up_self, qa_une, pk_us, pk_un, qa_up2, qa_upd2, Option.bind_some, if_true, if_false, and_true, true_and, and_self, qa_f1, qa_f2, zM_four_L3, qf_8e]
  refine ⟨h4, w4, ?_, ?_, c4, ((d1.tr d2).tr d3).tr d4⟩
  · unfold zT_add
    rw [e]
    exact (a1 _).trans ((a2 _).trans ((a3 _).trans ((a4 _).trans (f1 _))))
  · unfold zM_four
    rw [e]
    exact (b1 _).trans ((b2 _).trans ((b3 _).trans ((b4 _).trans (f2 _))))
section
variable {k P pn fn tn bn pn' fn' tn' bn' tl : Nat} {h : Nat → Nat → Int32} {w : zHM}
/-- the tape is new, all else is as it was -/
theorem qi_core_t {tl2 : Nat} {h' : Nat → Nat → Int32} {w' : zHM} (H : qi_core k P pn fn tn bn pn' fn' tn' bn' tl h w) (e : ∀ c, c ≤ 55 → h' c = h c) (e1 : ∀ j, j ≠ 5 → w'.1 83 j = w.1 83 j) (e2 : w'.1 84 = w.1 84 ∧ w'.1 85 = w.1 85 ∧ w'.1 86 = w.1 86) (HT : qf_tape tl2 h' w') : qi_core k P pn fn tn bn pn' fn' tn' bn' tl2 h' w' := by
  obtain ⟨h1, h2, h3, h4, h5, h6, h7, h8, h9⟩ := H
  have ht := h2.1
  unfold qi_core
  rw [e1 2 (by omega), e1 6 (by omega), e1 7 (by omega), e2.1, e2.2.1, e2.2.2]
  refine ⟨h1, h2, h3, qi_stg_h (fun c _ hc => e c (by omega)) h4, qi_stg_h (fun c _ hc => e c (by omega)) h5, HT, ?_, fun i hi => qi_txt_h (fun c hc1 hc => e c (by omega)) (h8 i hi), ?_⟩
  · rw [e 55 (by omega)]; exact h7
  · rw [e 53 (by omega), e 54 (by omega)]; exact h9
theorem qo_feed (H : qi_core k P pn fn tn bn pn' fn' tn' bn' tl h w) (v1 v2 v3 v4 v5 : Int32) : ∃ r h' w' tl2, zH_feed v1 v2 v3 v4 v5 h = some (r, h') ∧ zM_feed v1 v2 v3 v4 v5 w = some (r, w') ∧ qi_core k P pn fn tn bn pn' fn' tn' bn' tl2 h' w' ∧ (∀ c, 58 ≤ c → h' c = h c) ∧ w'.1 84 = w.1 84 ∧ w'.1 86 = w.1 86 := by
  have HT : qf_tape tl h w := H.2.2.2.2.2.1
  obtain ⟨g1, g2, g3, g4⟩ := id HT
  by_cases hq : tl + 20 ≤ 300
  · obtain ⟨h1, w1, a1, b1, c1, d1⟩ := qf_both HT (by omega) v1
    obtain ⟨h2, w2, a2, b2, c2, d2⟩ := qf_both c1 (by omega) v2
    obtain ⟨h3, w3, a3, b3, c3, d3⟩ := qf_both c2 (by omega) v3
    obtain ⟨h4, w4, a4, b4, c4, d4⟩ := qf_both c3 (by omega) v4
    obtain ⟨h5, w5, a5, b5, c5, d5⟩ := qf_both c4 (by omega) v5
    obtain ⟨fh, fw, fj⟩ := (((d1.tr d2).tr d3).tr d4).tr d5
    refine ⟨nI (tl + 4 + 4 + 4 + 4 + 4), h5, w5, tl + 4 + 4 + 4 + 4 + 4, ?_, ?_, qi_core_t H (fun c hc => fh c (by omega) (by omega)) fj ⟨fw 84 (by omega) (by omega), fw 85 (by omega) (by omega), fw 86 (by omega) (by omega)⟩ c5, fun c hc => fh c (by omega) (by omega), fw 84 (by omega) (by omega), fw 86 (by omega) (by omega)⟩
    · unfold zH_feed
      simp (disch := omega) only [qa_b, qa_lit, qa_neg1, qa_qN, nI_add, pk_mul, qa_ix, qa_cl, qa_ltT, qa_ltF, qa_eqT, qa_eqF, qa_nN, qa_Nn, qa_ltN, qa_Nlt, qa_NN, qa_ltNN, qa_sub, qa_dec, qa_dec0, qa_sub0, qa_incN, qa_31, qa_shr, qa_shl, qa_and1, va_up_self, qa_une, pk_us, pk_un, qa_up2, qa_upd2, Option.bind_some, if_true, if_false, and_true, true_and, and_self, qa_f1, qa_f2, g2, a1, a2, a3, a4, a5, c5.2.1]
    · unfold zM_feed
      simp (disch := omega) only [qa_b, qa_lit, qa_neg1, qa_qN, nI_add, pk_mul, qa_ix, qa_cl, qa_ltT, qa_ltF, qa_eqT, qa_eqF, qa_nN, qa_Nn, qa_ltN, qa_Nlt, qa_NN, qa_ltNN, qa_sub, qa_dec, qa_dec0, qa_sub0, qa_incN, qa_31, qa_shr, qa_shl, qa_and1, va_up_self, qa_une, pk_us, pk_un, qa_up2, qa_upd2, Option.bind_some, if_true, if_false, and_true, true_and, and_self, qa_f1, qa_f2, g1, b1, b2, b3, b4, b5, c5.1]
  · refine ⟨qN, h, w, tl, ?_, ?_, H, fun _ _ => rfl, rfl, rfl⟩
    · unfold zH_feed
      simp (disch := omega) only [qa_b, qa_lit, qa_neg1, qa_qN, nI_add, pk_mul, qa_ix, qa_cl, qa_ltT, qa_ltF, qa_eqT, qa_eqF, qa_nN, qa_Nn, qa_ltN, qa_Nlt, qa_NN, qa_ltNN, qa_sub, qa_dec, qa_dec0, qa_sub0, qa_incN, qa_31, qa_shr, qa_shl, qa_and1, va_up_self, qa_une, pk_us, pk_un, qa_up2, qa_upd2, Option.bind_some, if_true, if_false, and_true, true_and, and_self, qa_f1, qa_f2, g2]
    · unfold zM_feed
      simp (disch := omega) only [qa_b, qa_lit, qa_neg1, qa_qN, nI_add, pk_mul, qa_ix, qa_cl, qa_ltT, qa_ltF, qa_eqT, qa_eqF, qa_nN, qa_Nn, qa_ltN, qa_Nlt, qa_NN, qa_ltNN, qa_sub, qa_dec, qa_dec0, qa_sub0, qa_incN, qa_31, qa_shr, qa_shl, qa_and1, va_up_self, qa_une, pk_us, pk_un, qa_up2, qa_upd2, Option.bind_some, if_true, if_false, and_true, true_and, and_self, qa_f1, qa_f2, g1]
theorem qo_end (H : qi_core k P pn fn tn bn pn' fn' tn' bn' tl h w) (v1 : Int32) : ∃ r h' w' tl2, zH_end v1 h = (r, h') ∧ zM_end v1 w = (r, w') ∧ qi_core k P pn fn tn bn pn' fn' tn' bn' tl2 h' w' ∧ (∀ c, 58 ≤ c → h' c = h c) ∧ w'.1 84 = w.1 84 ∧ w'.1 86 = w.1 86 := by
  obtain ⟨g1, g2, g3, g4⟩ := H.2.2.2.2.2.1
  rcases qa_arg v1 (tl + 1) with hv | ⟨x, hx, hx', rfl⟩ | ⟨x, hx, hx', rfl⟩
  · refine ⟨qN, h, w, tl, ?_, ?_, H, fun _ _ => rfl, rfl, rfl⟩
    · simp (disch := omega) only [qa_b, qa_lit, qa_neg1, qa_qN, nI_add, pk_mul, qa_ix, qa_cl, qa_ltT, qa_ltF, qa_eqT, qa_eqF, qa_nN, qa_Nn, qa_ltN, qa_Nlt, qa_NN, qa_ltNN, qa_sub, qa_dec, qa_dec0, qa_sub0, qa_incN, qa_31, qa_shr, qa_shl, qa_and1, va_up_self, qa_une, pk_us, pk_un, qa_up2, qa_upd2, Option.bind_some, if_true, if_false, and_true, true_and, and_self, qa_f1, qa_f2, zH_end, hv]
    · simp (disch := omega) only [qa_b, qa_lit, qa_neg1, qa_qN, nI_add, pk_mul, qa_ix, qa_cl, qa_ltT, qa_ltF, qa_eqT, qa_eqF, qa_nN, qa_Nn, qa_ltN, qa_Nlt, qa_NN, qa_ltNN, qa_sub, qa_dec, qa_dec0, qa_sub0, qa_incN, qa_31, qa_shr, qa_shl, qa_and1, va_up_self, qa_une, pk_us, pk_un, qa_up2, qa_upd2, Option.bind_some, if_true, if_false, and_true, true_and, and_self, qa_f1, qa_f2, zM_end, zM_isIn, hv]
  · refine ⟨qN, h, w, tl, ?_, ?_, H, fun _ _ => rfl, rfl, rfl⟩
    · simp (disch := omega) only [qa_b, qa_lit, qa_neg1, qa_qN, nI_add, pk_mul, qa_ix, qa_cl, qa_ltT, qa_ltF, qa_eqT, qa_eqF, qa_nN, qa_Nn, qa_ltN, qa_Nlt, qa_NN, qa_ltNN, qa_sub, qa_dec, qa_dec0, qa_sub0, qa_incN, qa_31, qa_shr, qa_shl, qa_and1, va_up_self, qa_une, pk_us, pk_un, qa_up2, qa_upd2, Option.bind_some, if_true, if_false, and_true, true_and, and_self, qa_f1, qa_f2, zH_end, g2]
    · simp (disch := omega) only [qa_b, qa_lit, qa_neg1, qa_qN, nI_add, pk_mul, qa_ix, qa_cl, qa_ltT, qa_ltF, qa_eqT, qa_eqF, qa_nN, qa_Nn, qa_ltN, qa_Nlt, qa_NN, qa_ltNN, qa_sub, qa_dec, qa_dec0, qa_sub0, qa_incN, qa_31, qa_shr, qa_shl, qa_and1, va_up_self, qa_une, pk_us, pk_un, qa_up2, qa_upd2, Option.bind_some, if_true, if_false, and_true, true_and, and_self, qa_f1, qa_f2, zM_end, zM_isIn, g1]
  · refine ⟨nI x, va_up h 56 (upd (h 56) 1 (nI x)), (va_up w.1 83 (upd (w.1 83) 5 (nI x)), w.2), x, ?_, ?_, ?_, fun c hc => ?_, ?_, ?_⟩
    · simp (disch := omega) only [qa_b, qa_lit, qa_neg1, qa_qN, nI_add, pk_mul, qa_ix, qa_cl, qa_ltT, qa_ltF, qa_eqT, qa_eqF, qa_nN, qa_Nn, qa_ltN, qa_Nlt, qa_NN, qa_ltNN, qa_sub, qa_dec, qa_dec0, qa_sub0, qa_incN, qa_31, qa_shr, qa_shl, qa_and1, va_up_self, qa_une, pk_us, pk_un, qa_up2, qa_upd2, Option.bind_some, if_true, if_false, and_true, true_and, and_self, qa_f1, qa_f2, zH_end, g2]
    · simp (disch := omega) only [qa_b, qa_lit, qa_neg1, qa_qN, nI_add, pk_mul, qa_ix, qa_cl, qa_ltT, qa_ltF, qa_eqT, qa_eqF, qa_nN, qa_Nn, qa_ltN, qa_Nlt, qa_NN, qa_ltNN, qa_sub, qa_dec, qa_dec0, qa_sub0, qa_incN, qa_31, qa_shr, qa_shl, qa_and1, va_up_self, qa_une, pk_us, pk_un, qa_up2, qa_upd2, Option.bind_some, if_true, if_false, and_true, true_and, and_self, qa_f1, qa_f2, zM_end, zM_isIn, g1]
    · refine qi_core_t H (fun c hc => ?_) (fun j hj => ?_) ⟨?_, ?_, ?_⟩ ⟨?_, ?_, by omega, fun j hj => ?_⟩
      · simp (disch := omega) only [qa_b, qa_lit, qa_neg1, qa_qN, nI_add, pk_mul, qa_ix, qa_cl, qa_ltT, qa_ltF, qa_eqT, qa_eqF, qa_nN, qa_Nn, qa_ltN, qa_Nlt, qa_NN, qa_ltNN, qa_sub, qa_dec, qa_dec0, qa_sub0, qa_incN, qa_31, qa_shr, qa_shl, qa_and1, va_up_self, qa_une, pk_us, pk_un, qa_up2, qa_upd2, Option.bind_some, if_true, if_false, and_true, true_and, and_self, qa_f1, qa_f2]
      · simp (disch := omega) only [qa_b, qa_lit, qa_neg1, qa_qN, nI_add, pk_mul, qa_ix, qa_cl, qa_ltT, qa_ltF, qa_eqT, qa_eqF, qa_nN, qa_Nn, qa_ltN, qa_Nlt, qa_NN, qa_ltNN, qa_sub, qa_dec, qa_dec0, qa_sub0, qa_incN, qa_31, qa_shr, qa_shl, qa_and1, va_up_self, qa_une, pk_us, pk_un, qa_up2, qa_upd2, Option.bind_some, if_true, if_false, and_true, true_and, and_self, qa_f1, qa_f2]
      · simp (disch := omega) only [qa_b, qa_lit, qa_neg1, qa_qN, nI_add, pk_mul, qa_ix, qa_cl, qa_ltT, qa_ltF, qa_eqT, qa_eqF, qa_nN, qa_Nn, qa_ltN, qa_Nlt, qa_NN, qa_ltNN, qa_sub, qa_dec, qa_dec0, qa_sub0, qa_incN, qa_31, qa_shr, qa_shl, qa_and1, va_up_self, qa_une, pk_us, pk_un, qa_up2, qa_upd2, Option.bind_some, if_true, if_false, and_true, true_and, and_self, qa_f1, qa_f2]
      · simp (disch := omega) only [qa_b, qa_lit, qa_neg1, qa_qN, nI_add, pk_mul, qa_ix, qa_cl, qa_ltT, qa_ltF, qa_eqT, qa_eqF, qa_nN, qa_Nn, qa_ltN, qa_Nlt, qa_NN, qa_ltNN, qa_sub, qa_dec, qa_dec0, qa_sub0, qa_incN, qa_31, qa_shr, qa_shl, qa_and1, va_up_self, qa_une, pk_us, pk_un, qa_up2, qa_upd2, Option.bind_some, if_true, if_false, and_true, true_and, and_self, qa_f1, qa_f2]
      · simp (disch := omega) only [qa_b, qa_lit, qa_neg1, qa_qN, nI_add, pk_mul, qa_ix, qa_cl, qa_ltT, qa_ltF, qa_eqT, qa_eqF, qa_nN, qa_Nn, qa_ltN, qa_Nlt, qa_NN, qa_ltNN, qa_sub, qa_dec, qa_dec0, qa_sub0, qa_incN, qa_31, qa_shr, qa_shl, qa_and1, va_up_self, qa_une, pk_us, pk_un, qa_up2, qa_upd2, Option.bind_some, if_true, if_false, and_true, true_and, and_self, qa_f1, qa_f2]
      · simp (disch := omega) only [qa_b, qa_lit, qa_neg1, qa_qN, nI_add, pk_mul, qa_ix, qa_cl, qa_ltT, qa_ltF, qa_eqT, qa_eqF, qa_nN, qa_Nn, qa_ltN, qa_Nlt, qa_NN, qa_ltNN, qa_sub, qa_dec, qa_dec0, qa_sub0, qa_incN, qa_31, qa_shr, qa_shl, qa_and1, va_up_self, qa_une, pk_us, pk_un, qa_up2, qa_upd2, Option.bind_some, if_true, if_false, and_true, true_and, and_self, qa_f1, qa_f2]
      · simp (disch := omega) only [qa_b, qa_lit, qa_neg1, qa_qN, nI_add, pk_mul, qa_ix, qa_cl, qa_ltT, qa_ltF, qa_eqT, qa_eqF, qa_nN, qa_Nn, qa_ltN, qa_Nlt, qa_NN, qa_ltNN, qa_sub, qa_dec, qa_dec0, qa_sub0, qa_incN, qa_31, qa_shr, qa_shl, qa_and1, va_up_self, qa_une, pk_us, pk_un, qa_up2, qa_upd2, Option.bind_some, if_true, if_false, and_true, true_and, and_self, qa_f1, qa_f2]
      · simp (disch := omega) only [qa_b, qa_lit, qa_neg1, qa_qN, nI_add, pk_mul, qa_ix, qa_cl, qa_ltT, qa_ltF, qa_eqT, qa_eqF, qa_nN, qa_Nn, qa_ltN, qa_Nlt, qa_NN, qa_ltNN, qa_sub, qa_dec, qa_dec0, qa_sub0, qa_incN, qa_31, qa_shr, qa_shl, qa_and1, va_up_self, qa_une, pk_us, pk_un, qa_up2, qa_upd2, Option.bind_some, if_true, if_false, and_true, true_and, and_self, qa_f1, qa_f2]
        exact g4 j (by omega)
    · simp (disch := omega) only [qa_b, qa_lit, qa_neg1, qa_qN, nI_add, pk_mul, qa_ix, qa_cl, qa_ltT, qa_ltF, qa_eqT, qa_eqF, qa_nN, qa_Nn, qa_ltN, qa_Nlt, qa_NN, qa_ltNN, qa_sub, qa_dec, qa_dec0, qa_sub0, qa_incN, qa_31, qa_shr, qa_shl, qa_and1, va_up_self, qa_une, pk_us, pk_un, qa_up2, qa_upd2, Option.bind_some, if_true, if_false, and_true, true_and, and_self, qa_f1, qa_f2]
    · simp (disch := omega) only [qa_b, qa_lit, qa_neg1, qa_qN, nI_add, pk_mul, qa_ix, qa_cl, qa_ltT, qa_ltF, qa_eqT, qa_eqF, qa_nN, qa_Nn, qa_ltN, qa_Nlt, qa_NN, qa_ltNN, qa_sub, qa_dec, qa_dec0, qa_sub0, qa_incN, qa_31, qa_shr, qa_shl, qa_and1, va_up_self, qa_une, pk_us, pk_un, qa_up2, qa_upd2, Option.bind_some, if_true, if_false, and_true, true_and, and_self, qa_f1, qa_f2]
    · simp (disch := omega) only [qa_b, qa_lit, qa_neg1, qa_qN, nI_add, pk_mul, qa_ix, qa_cl, qa_ltT, qa_ltF, qa_eqT, qa_eqF, qa_nN, qa_Nn, qa_ltN, qa_Nlt, qa_NN, qa_ltNN, qa_sub, qa_dec, qa_dec0, qa_sub0, qa_incN, qa_31, qa_shr, qa_shl, qa_and1, va_up_self, qa_une, pk_us, pk_un, qa_up2, qa_upd2, Option.bind_some, if_true, if_false, and_true, true_and, and_self, qa_f1, qa_f2]
theorem qo_fault (H : qi_core k P pn fn tn bn pn' fn' tn' bn' tl h w) (v1 : Int32) : zH_fault v1 h = zM_fault v1 w := by
  obtain ⟨g1, g2⟩ := H.2.2.2.2.2.2.1
  unfold zH_fault zM_fault
  rw [g1, g2]
theorem qo_at (H : qi_core k P pn fn tn bn pn' fn' tn' bn' tl h w) (v1 v2 : Int32) : ∃ r, zH_at v1 v2 h = some r ∧ zM_at v1 v2 w = some r := by
  obtain ⟨⟨hP3, hP8, hP, htn⟩, ⟨⟨a0, a1, a4, a6, lpn, lfn, ltn, lbn⟩, A2, A3, A5, Ap, Af, At⟩, -, HS1, -⟩ := H
  obtain ⟨⟨s0, s1, s4, s9, s10, s11, s12, s13⟩, Sp, Sf, Sg, St, Su, Sv⟩ := qi_stg0 HS1
  have q1 := qm_figure a1 lfn v2
  have q2 := qm_beat a6 lbn v1
  have n2 : (-2 : Int32) = -(nI 2) := rfl
  rcases qa_arg v2 fn with hv | ⟨x, hx, hx', rfl⟩ | ⟨x, hx, hx', rfl⟩
  · refine ⟨-(nI 2), ?_, ?_⟩
    · simp (disch := omega) only [qa_b, qa_lit, qa_neg1, qa_qN, nI_add, pk_mul, qa_ix, qa_cl, qa_ltT, qa_ltF, qa_eqT, qa_eqF, qa_nN, qa_Nn, qa_ltN, qa_Nlt, qa_NN, qa_ltNN, qa_sub, qa_dec, qa_dec0, qa_sub0, qa_incN, qa_31, qa_shr, qa_shl, qa_and1, va_up_self, qa_une, pk_us, pk_un, qa_up2, qa_upd2, Option.bind_some, if_true, if_false, and_true, true_and, and_self, qa_f1, qa_f2, zH_at, zH_isFigure, hv, n2]
    · simp (disch := omega) only [qa_b, qa_lit, qa_neg1, qa_qN, nI_add, pk_mul, qa_ix, qa_cl, qa_ltT, qa_ltF, qa_eqT, qa_eqF, qa_nN, qa_Nn, qa_ltN, qa_Nlt, qa_NN, qa_ltNN, qa_sub, qa_dec, qa_dec0, qa_sub0, qa_incN, qa_31, qa_shr, qa_shl, qa_and1, va_up_self, qa_une, pk_us, pk_un, qa_up2, qa_upd2, Option.bind_some, if_true, if_false, and_true, true_and, and_self, qa_f1, qa_f2, zM_at, q1, hv, n2]
  · refine ⟨-(nI 2), ?_, ?_⟩
    · simp (disch := omega) only [qa_b, qa_lit, qa_neg1, qa_qN, nI_add, pk_mul, qa_ix, qa_cl, qa_ltT, qa_ltF, qa_eqT, qa_eqF, qa_nN, qa_Nn, qa_ltN, qa_Nlt, qa_NN, qa_ltNN, qa_sub, qa_dec, qa_dec0, qa_sub0, qa_incN, qa_31, qa_shr, qa_shl, qa_and1, va_up_self, qa_une, pk_us, pk_un, qa_up2, qa_upd2, Option.bind_some, if_true, if_false, and_true, true_and, and_self, qa_f1, qa_f2, zH_at, zH_isFigure, s4, n2]
    · simp (disch := omega) only [qa_b, qa_lit, qa_neg1, qa_qN, nI_add, pk_mul, qa_ix, qa_cl, qa_ltT, qa_ltF, qa_eqT, qa_eqF, qa_nN, qa_Nn, qa_ltN, qa_Nlt, qa_NN, qa_ltNN, qa_sub, qa_dec, qa_dec0, qa_sub0, qa_incN, qa_31, qa_shr, qa_shl, qa_and1, va_up_self, qa_une, pk_us, pk_un, qa_up2, qa_upd2, Option.bind_some, if_true, if_false, and_true, true_and, and_self, qa_f1, qa_f2, zM_at, q1, n2]
  by_cases hN : v1 = qN
  · subst hN
    refine ⟨h 7 x, ?_, ?_⟩
    · simp (disch := omega) only [qa_b, qa_lit, qa_neg1, qa_qN, nI_add, pk_mul, qa_ix, qa_cl, qa_ltT, qa_ltF, qa_eqT, qa_eqF, qa_nN, qa_Nn, qa_ltN, qa_Nlt, qa_NN, qa_ltNN, qa_sub, qa_dec, qa_dec0, qa_sub0, qa_incN, qa_31, qa_shr, qa_shl, qa_and1, va_up_self, qa_une, pk_us, pk_un, qa_up2, qa_upd2, Option.bind_some, if_true, if_false, and_true, true_and, and_self, qa_f1, qa_f2, zH_at, zH_isFigure, s4, n2]
    · simp (disch := omega) only [qa_b, qa_lit, qa_neg1, qa_qN, nI_add, pk_mul, qa_ix, qa_cl, qa_ltT, qa_ltF, qa_eqT, qa_eqF, qa_nN, qa_Nn, qa_ltN, qa_Nlt, qa_NN, qa_ltNN, qa_sub, qa_dec, qa_dec0, qa_sub0, qa_incN, qa_31, qa_shr, qa_shl, qa_and1, va_up_self, qa_une, pk_us, pk_un, qa_up2, qa_upd2, Option.bind_some, if_true, if_false, and_true, true_and, and_self, qa_f1, qa_f2, zM_at, zM_at_J24, q1, n2, (Sf x hx).2.2.2]
  rcases qa_arg v1 bn with hv | ⟨y, hy, hy', rfl⟩ | ⟨y, hy, hy', rfl⟩
  · refine ⟨-(nI 2), ?_, ?_⟩
    · simp (disch := omega) only [qa_b, qa_lit, qa_neg1, qa_qN, nI_add, pk_mul, qa_ix, qa_cl, qa_ltT, qa_ltF, qa_eqT, qa_eqF, qa_nN, qa_Nn, qa_ltN, qa_Nlt, qa_NN, qa_ltNN, qa_sub, qa_dec, qa_dec0, qa_sub0, qa_incN, qa_31, qa_shr, qa_shl, qa_and1, va_up_self, qa_une, pk_us, pk_un, qa_up2, qa_upd2, Option.bind_some, if_true, if_false, and_true, true_and, and_self, qa_f1, qa_f2, zH_at, zH_isFigure, zH_isBeat, s4, s13, hv, hN, n2]
    · simp (disch := omega) only [qa_b, qa_lit, qa_neg1, qa_qN, nI_add, pk_mul, qa_ix, qa_cl, qa_ltT, qa_ltF, qa_eqT, qa_eqF, qa_nN, qa_Nn, qa_ltN, qa_Nlt, qa_NN, qa_ltNN, qa_sub, qa_dec, qa_dec0, qa_sub0, qa_incN, qa_31, qa_shr, qa_shl, qa_and1, va_up_self, qa_une, pk_us, pk_un, qa_up2, qa_upd2, Option.bind_some, if_true, if_false, and_true, true_and, and_self, qa_f1, qa_f2, zM_at, q1, q2, hv, hN, n2]
  · refine ⟨-(nI 2), ?_, ?_⟩
    · simp (disch := omega) only [qa_b, qa_lit, qa_neg1, qa_qN, nI_add, pk_mul, qa_ix, qa_cl, qa_ltT, qa_ltF, qa_eqT, qa_eqF, qa_nN, qa_Nn, qa_ltN, qa_Nlt, qa_NN, qa_ltNN, qa_sub, qa_dec, qa_dec0, qa_sub0, qa_incN, qa_31, qa_shr, qa_shl, qa_and1, va_up_self, qa_une, pk_us, pk_un, qa_up2, qa_upd2, Option.bind_some, if_true, if_false, and_true, true_and, and_self, qa_f1, qa_f2, zH_at, zH_isFigure, zH_isBeat, s4, s13, n2]
    · simp (disch := omega) only [qa_b, qa_lit, qa_neg1, qa_qN, nI_add, pk_mul, qa_ix, qa_cl, qa_ltT, qa_ltF, qa_eqT, qa_eqF, qa_nN, qa_Nn, qa_ltN, qa_Nlt, qa_NN, qa_ltNN, qa_sub, qa_dec, qa_dec0, qa_sub0, qa_incN, qa_31, qa_shr, qa_shl, qa_and1, va_up_self, qa_une, pk_us, pk_un, qa_up2, qa_upd2, Option.bind_some, if_true, if_false, and_true, true_and, and_self, qa_f1, qa_f2, zM_at, q1, q2, n2]
  · refine ⟨h 8 (y * 6 + x), ?_, ?_⟩
    · simp (disch := omega) only [qa_b, qa_lit, qa_neg1, qa_qN, nI_add, pk_mul, qa_ix, qa_cl, qa_ltT, qa_ltF, qa_eqT, qa_eqF, qa_nN, qa_Nn, qa_ltN, qa_Nlt, qa_NN, qa_ltNN, qa_sub, qa_dec, qa_dec0, qa_sub0, qa_incN, qa_31, qa_shr, qa_shl, qa_and1, va_up_self, qa_une, pk_us, pk_un, qa_up2, qa_upd2, Option.bind_some, if_true, if_false, and_true, true_and, and_self, qa_f1, qa_f2, zH_at, zH_isFigure, zH_isBeat, s4, s13, n2]
    · simp (disch := omega) only [qa_b, qa_lit, qa_neg1, qa_qN, nI_add, pk_mul, qa_ix, qa_cl, qa_ltT, qa_ltF, qa_eqT, qa_eqF, qa_nN, qa_Nn, qa_ltN, qa_Nlt, qa_NN, qa_ltNN, qa_sub, qa_dec, qa_dec0, qa_sub0, qa_incN, qa_31, qa_shr, qa_shl, qa_and1, va_up_self, qa_une, pk_us, pk_un, qa_up2, qa_upd2, Option.bind_some, if_true, if_false, and_true, true_and, and_self, qa_f1, qa_f2, zM_at, zM_at_J24, zM_placeOf, q1, q2, n2, (St y x hy hx).1]
theorem qo_held (H : qi_core k P pn fn tn bn pn' fn' tn' bn' tl h w) (v1 v2 : Int32) : ∃ r, zH_held v1 v2 h = some r ∧ zM_held v1 v2 w = some r := by
  obtain ⟨⟨hP3, hP8, hP, htn⟩, ⟨⟨a0, a1, a4, a6, lpn, lfn, ltn, lbn⟩, A2, A3, A5, Ap, Af, At⟩, -, HS1, -⟩ := H
  obtain ⟨⟨s0, s1, s4, s9, s10, s11, s12, s13⟩, Sp, Sf, Sg, St, Su, Sv⟩ := qi_stg0 HS1
  have q1 := qm_figure a1 lfn v2
  have q2 := qm_beat a6 lbn v1
  rcases qa_arg v1 bn with hv | ⟨y, hy, hy', rfl⟩ | ⟨y, hy, hy', rfl⟩
  · refine ⟨qN, ?_, ?_⟩
    · simp (disch := omega) only [qa_b, qa_lit, qa_neg1, qa_qN, nI_add, pk_mul, qa_ix, qa_cl, qa_ltT, qa_ltF, qa_eqT, qa_eqF, qa_nN, qa_Nn, qa_ltN, qa_Nlt, qa_NN, qa_ltNN, qa_sub, qa_dec, qa_dec0, qa_sub0, qa_incN, qa_31, qa_shr, qa_shl, qa_and1, va_up_self, qa_une, pk_us, pk_un, qa_up2, qa_upd2, Option.bind_some, if_true, if_false, and_true, true_and, and_self, qa_f1, qa_f2, zH_held, zH_isBeat, hv]
    · simp (disch := omega) only [qa_b, qa_lit, qa_neg1, qa_qN, nI_add, pk_mul, qa_ix, qa_cl, qa_ltT, qa_ltF, qa_eqT, qa_eqF, qa_nN, qa_Nn, qa_ltN, qa_Nlt, qa_NN, qa_ltNN, qa_sub, qa_dec, qa_dec0, qa_sub0, qa_incN, qa_31, qa_shr, qa_shl, qa_and1, va_up_self, qa_une, pk_us, pk_un, qa_up2, qa_upd2, Option.bind_some, if_true, if_false, and_true, true_and, and_self, qa_f1, qa_f2, zM_held, q2, hv]
  · refine ⟨qN, ?_, ?_⟩
    · simp (disch := omega) only [qa_b, qa_lit, qa_neg1, qa_qN, nI_add, pk_mul, qa_ix, qa_cl, qa_ltT, qa_ltF, qa_eqT, qa_eqF, qa_nN, qa_Nn, qa_ltN, qa_Nlt, qa_NN, qa_ltNN, qa_sub, qa_dec, qa_dec0, qa_sub0, qa_incN, qa_31, qa_shr, qa_shl, qa_and1, va_up_self, qa_une, pk_us, pk_un, qa_up2, qa_upd2, Option.bind_some, if_true, if_false, and_true, true_and, and_self, qa_f1, qa_f2, zH_held, zH_isBeat, s13]
    · simp (disch := omega) only [qa_b, qa_lit, qa_neg1, qa_qN, nI_add, pk_mul, qa_ix, qa_cl, qa_ltT, qa_ltF, qa_eqT, qa_eqF, qa_nN, qa_Nn, qa_ltN, qa_Nlt, qa_NN, qa_ltNN, qa_sub, qa_dec, qa_dec0, qa_sub0, qa_incN, qa_31, qa_shr, qa_shl, qa_and1, va_up_self, qa_une, pk_us, pk_un, qa_up2, qa_upd2, Option.bind_some, if_true, if_false, and_true, true_and, and_self, qa_f1, qa_f2, zM_held, q2]
  rcases qa_arg v2 fn with hv | ⟨x, hx, hx', rfl⟩ | ⟨x, hx, hx', rfl⟩
  · refine ⟨qN, ?_, ?_⟩
    · simp (disch := omega) only [qa_b, qa_lit, qa_neg1, qa_qN, nI_add, pk_mul, qa_ix, qa_cl, qa_ltT, qa_ltF, qa_eqT, qa_eqF, qa_nN, qa_Nn, qa_ltN, qa_Nlt, qa_NN, qa_ltNN, qa_sub, qa_dec, qa_dec0, qa_sub0, qa_incN, qa_31, qa_shr, qa_shl, qa_and1, va_up_self, qa_une, pk_us, pk_un, qa_up2, qa_upd2, Option.bind_some, if_true, if_false, and_true, true_and, and_self, qa_f1, qa_f2, zH_held, zH_isBeat, zH_isFigure, s13, hv]
    · simp (disch := omega) only [qa_b, qa_lit, qa_neg1, qa_qN, nI_add, pk_mul, qa_ix, qa_cl, qa_ltT, qa_ltF, qa_eqT, qa_eqF, qa_nN, qa_Nn, qa_ltN, qa_Nlt, qa_NN, qa_ltNN, qa_sub, qa_dec, qa_dec0, qa_sub0, qa_incN, qa_31, qa_shr, qa_shl, qa_and1, va_up_self, qa_une, pk_us, pk_un, qa_up2, qa_upd2, Option.bind_some, if_true, if_false, and_true, true_and, and_self, qa_f1, qa_f2, zM_held, q1, q2, hv]
  · refine ⟨qN, ?_, ?_⟩
    · simp (disch := omega) only [qa_b, qa_lit, qa_neg1, qa_qN, nI_add, pk_mul, qa_ix, qa_cl, qa_ltT, qa_ltF, qa_eqT, qa_eqF, qa_nN, qa_Nn, qa_ltN, qa_Nlt, qa_NN, qa_ltNN, qa_sub, qa_dec, qa_dec0, qa_sub0, qa_incN, qa_31, qa_shr, qa_shl, qa_and1, va_up_self, qa_une, pk_us, pk_un, qa_up2, qa_upd2, Option.bind_some, if_true, if_false, and_true, true_and, and_self, qa_f1, qa_f2, zH_held, zH_isBeat, zH_isFigure, s13, s4]
    · simp (disch := omega) only [qa_b, qa_lit, qa_neg1, qa_qN, nI_add, pk_mul, qa_ix, qa_cl, qa_ltT, qa_ltF, qa_eqT, qa_eqF, qa_nN, qa_Nn, qa_ltN, qa_Nlt, qa_NN, qa_ltNN, qa_sub, qa_dec, qa_dec0, qa_sub0, qa_incN, qa_31, qa_shr, qa_shl, qa_and1, va_up_self, qa_une, pk_us, pk_un, qa_up2, qa_upd2, Option.bind_some, if_true, if_false, and_true, true_and, and_self, qa_f1, qa_f2, zM_held, q1, q2]
  · refine ⟨h 9 (y * 6 + x), ?_, ?_⟩
    · simp (disch := omega) only [qa_b, qa_lit, qa_neg1, qa_qN, nI_add, pk_mul, qa_ix, qa_cl, qa_ltT, qa_ltF, qa_eqT, qa_eqF, qa_nN, qa_Nn, qa_ltN, qa_Nlt, qa_NN, qa_ltNN, qa_sub, qa_dec, qa_dec0, qa_sub0, qa_incN, qa_31, qa_shr, qa_shl, qa_and1, va_up_self, qa_une, pk_us, pk_un, qa_up2, qa_upd2, Option.bind_some, if_true, if_false, and_true, true_and, and_self, qa_f1, qa_f2, zH_held, zH_isBeat, zH_isFigure, s13, s4]
    · simp (disch := omega) only [qa_b, qa_lit, qa_neg1, qa_qN, nI_add, pk_mul, qa_ix, qa_cl, qa_ltT, qa_ltF, qa_eqT, qa_eqF, qa_nN, qa_Nn, qa_ltN, qa_Nlt, qa_NN, qa_ltNN, qa_sub, qa_dec, qa_dec0, qa_sub0, qa_incN, qa_31, qa_shr, qa_shl, qa_and1, va_up_self, qa_une, pk_us, pk_un, qa_up2, qa_upd2, Option.bind_some, if_true, if_false, and_true, true_and, and_self, qa_f1, qa_f2, zM_held, zM_heldBy, q1, q2, (St y x hy hx).2]
end
