/-! THE HEART: sees -/
section
variable {L P pn fn tn bn : Nat} {h : Nat → Nat → Int32} {w : zHM}
theorem qk_shown (HA : qi_a L P pn fn tn bn (w.1 84)) (hP : P ≤ 8) {x t f s : Nat} (ht : t < bn) (hf : f < fn) (ho : qs_on (w.1 84) t f = true) (hs : s < 8) : ∀ (k n g acc : Nat) (h : Nat → Nat → Int32), g + k = fn → k < n → acc ≤ g → qi_stg 0 P pn fn tn bn h (w.1 84) → qk_askH x h (w.1 84) (w.1 86) → qk_nm (w.1 84) t f h → h 60 19 = nI s → h 60 20 = nI acc →
    ∃ h', zL_isShown_L28 n x (nI t) (nI g) h = some (qs_b (qs_law (w.1 84) (w.1 86) 2 t f s (acc + qs_mn (w.1 84) t f g k)), h') ∧ (∀ c, c ≠ 60 → c ≠ 61 → h' c = h c)
  | 0, n + 1, g, acc, h, hg, _, hac, HS, hask, hnm, e19, e20 => by
    obtain ⟨a0, a1, a4, a6, lpn, lfn, ltn, lbn⟩ := HA.1
    have s4 := (qi_stg0 HS).1.2.2.1
    obtain ⟨k1, k2⟩ := qi_kd HA hf
    obtain ⟨p1, p2, p3⟩ := qi_plc HA hP ht hf ho
    obtain ⟨m1, m2, m3, m4⟩ := id hnm
    obtain ⟨q, eq⟩ : ∃ q, zL_isSo x (nI 5) h = some (qs_b (qs_law (w.1 84) (w.1 86) 2 t f s acc), va_up h 61 q) := hask 2 h (qn_c f (qs_kd (w.1 84) f) (qs_pl (w.1 84) t f) t (s : Nat) (acc : Nat)) (by omega) (fun _ _ => rfl) (fun v hv => by
      rcases (show v = 0 ∨ v = 1 ∨ v = 2 ∨ v = 3 ∨ v = 8 ∨ v = 9 by omega) with rfl | rfl | rfl | rfl | rfl | rfl
      · rw [show qi_nm 0 = 12 from rfl, m1]
        exact ⟨nI_toInt (by omega), qn_sm (by show 0 ≤ (f : Int) ∧ (f : Int) ≤ 100; omega)⟩
      · rw [show qi_nm 1 = 13 from rfl, m2]
        exact ⟨nI_toInt (by omega), qn_sm (by show 0 ≤ (qs_kd (w.1 84) f : Int) ∧ (qs_kd (w.1 84) f : Int) ≤ 100; omega)⟩
      · rw [show qi_nm 2 = 14 from rfl, m3]
        exact ⟨nI_toInt (by omega), qn_sm (by show 0 ≤ (qs_pl (w.1 84) t f : Int) ∧ (qs_pl (w.1 84) t f : Int) ≤ 100; omega)⟩
      · rw [show qi_nm 3 = 10 from rfl, m4]
        exact ⟨nI_toInt (by omega), qn_sm (by show 0 ≤ (t : Int) ∧ (t : Int) ≤ 100; omega)⟩
      · rw [show qi_nm 8 = 19 from rfl, e19]
        exact ⟨nI_toInt (by omega), qn_sm (by show 0 ≤ (s : Int) ∧ (s : Int) ≤ 100; omega)⟩
      · rw [show qi_nm 9 = 20 from rfl, e20]
        exact ⟨nI_toInt (by omega), qn_sm (by show 0 ≤ (acc : Int) ∧ (acc : Int) ≤ 100; omega)⟩)
    refine ⟨va_up h 61 q, ?_, fun c _ hc => qa_une _ _ hc⟩
    rw [show acc + qs_mn (w.1 84) t f g 0 = acc from rfl]
    simp (disch := omega) only [↓reduceIte, zL_isShown_L28, s4, qa_ltF, qa_lit, eq, Option.bind_some, ql_qb]
  | k + 1, n + 1, g, acc, h, hg, hn, hac, HS, hask, hnm, e19, e20 => by
    obtain ⟨a0, a1, a4, a6, lpn, lfn, ltn, lbn⟩ := HA.1
    have s4 := (qi_stg0 HS).1.2.2.1
    have s8 := ((qi_stg0 HS).2.2.2.2.1 t g ht (by omega)).1
    obtain ⟨p1, p2, p3⟩ := qi_plc HA hP ht hf ho
    obtain ⟨m1, m2, m3, m4⟩ := id hnm
    unfold qs_mn
    by_cases hq : w.1 84 (50 + 6 * t + g) = w.1 84 (50 + 6 * t + f)
    · rw [if_pos hq]
      have hq2 : w.1 84 (50 + 6 * t + g) = nI (qs_pl (w.1 84) t f) := hq.trans p1
      obtain ⟨h', e, fr⟩ := qk_shown HA hP ht hf ho hs k n (g + 1) (acc + 1) (va_up h 60 (upd (h 60) 20 (nI (acc + 1)))) (by omega) (by omega) (by omega) (qi_stg_h (fun c _ hc => qa_une _ _ (by omega)) HS) (qk_askH_h hask (fun c hc => qa_une _ _ (by omega))) (by unfold qk_nm; simp (disch := omega) only [↓reduceIte, ↓qa_b, qa_b, qa_lit, qa_neg1, qa_qN, nI_add, pk_mul, qa_ix, qa_cl, qa_ltT, qa_ltF, qa_eqT, qa_eqF, qa_nN, qa_Nn, qa_ltN, qa_Nlt, qa_NN, qa_ltNN, qa_sub, qa_dec, qa_dec0, qa_sub0, qa_incN, qa_31, qa_shr, qa_shl, qa_and1, va_up_self, qa_une, pk_us, pk_un, qa_up2, qa_upd2, Option.bind_some, if_true, if_false, and_true, true_and, and_self, qa_f1, qa_f2, m1, m2, m3, m4]) (by simp (disch := omega) only [↓reduceIte, ↓qa_b, qa_b, qa_lit, qa_neg1, qa_qN, nI_add, pk_mul, qa_ix, qa_cl, qa_ltT, qa_ltF, qa_eqT, qa_eqF, qa_nN, qa_Nn, qa_ltN, qa_Nlt, qa_NN, qa_ltNN, qa_sub, qa_dec, qa_dec0, qa_sub0, qa_incN, qa_31, qa_shr, qa_shl, qa_and1, va_up_self, qa_une, pk_us, pk_un, qa_up2, qa_upd2, Option.bind_some, if_true, if_false, and_true, true_and, and_self, qa_f1, qa_f2, e19]) (by simp (disch := omega) only [↓reduceIte, ↓qa_b, qa_b, qa_lit, qa_neg1, qa_qN, nI_add, pk_mul, qa_ix, qa_cl, qa_ltT, qa_ltF, qa_eqT, qa_eqF, qa_nN, qa_Nn, qa_ltN, qa_Nlt, qa_NN, qa_ltNN, qa_sub, qa_dec, qa_dec0, qa_sub0, qa_incN, qa_31, qa_shr, qa_shl, qa_and1, va_up_self, qa_une, pk_us, pk_un, qa_up2, qa_upd2, Option.bind_some, if_true, if_false, and_true, true_and, and_self, qa_f1, qa_f2])
      refine ⟨h', ?_, fun c c1 c2 => by rw [fr c c1 c2, qa_une _ _ c1]⟩
      rw [← Nat.add_assoc]
      simp (disch := omega) only [↓reduceIte, ↓qa_b, zL_isShown_L28, s4, qa_ltT, pk_mul, nI_add, qa_ix, qa_cl, s8, hq2, m3, e20, qa_lit]
      exact e
    · rw [if_neg hq, Nat.zero_add]
      have hq2 : ¬ w.1 84 (50 + 6 * t + g) = nI (qs_pl (w.1 84) t f) := fun q => hq (q.trans p1.symm)
      obtain ⟨h', e, fr⟩ := qk_shown HA hP ht hf ho hs k n (g + 1) acc h (by omega) (by omega) (by omega) HS hask hnm e19 e20
      refine ⟨h', ?_, fr⟩
      simp (disch := omega) only [↓reduceIte, ↓qa_b, zL_isShown_L28, s4, qa_ltT, pk_mul, nI_add, qa_ix, qa_cl, s8, hq2, m3, qa_lit]
      exact e
theorem qk_isShown (HA : qi_a L P pn fn tn bn (w.1 84)) (hP : P ≤ 8) {x t f s : Nat} (ht : t < bn) (hf : f < fn) (ho : qs_on (w.1 84) t f = true) (hs : s < 8) (HS : qi_stg 0 P pn fn tn bn h (w.1 84)) (hask : qk_askH x h (w.1 84) (w.1 86)) : ∃ h', zL_isShown x (nI t) (nI f) (nI s) h = some (qs_b (qs_law (w.1 84) (w.1 86) 2 t f s (qs_mn (w.1 84) t f 0 fn)), h') ∧ (∀ c, c ≠ 60 → c ≠ 61 → h' c = h c) := by
  obtain ⟨a0, a1, a4, a6, lpn, lfn, ltn, lbn⟩ := HA.1
  obtain ⟨g, en, m1, m2, m3, m4⟩ := qk_name HA hP HS ht hf ho
  rw [va_up_self] at m1 m2 m3 m4
  obtain ⟨h', e, fr⟩ := qk_shown HA hP ht hf ho hs fn am_N 0 0 (va_up h 60 (upd (upd g 19 (nI s)) 20 (nI 0))) (by omega) (Nat.lt_of_le_of_lt lfn (by decide)) (by omega) (qi_stg_h (fun c _ hc => qa_une _ _ (by omega)) HS) (qk_askH_h hask (fun c hc => qa_une _ _ (by omega))) (by unfold qk_nm; simp (disch := omega) only [↓reduceIte, ↓qa_b, qa_b, qa_lit, qa_neg1, qa_qN, nI_add, pk_mul, qa_ix, qa_cl, qa_ltT, qa_ltF, qa_eqT, qa_eqF, qa_nN, qa_Nn, qa_ltN, qa_Nlt, qa_NN, qa_ltNN, qa_sub, qa_dec, qa_dec0, qa_sub0, qa_incN, qa_31, qa_shr, qa_shl, qa_and1, va_up_self, qa_une, pk_us, pk_un, qa_up2, qa_upd2, Option.bind_some, if_true, if_false, and_true, true_and, and_self, qa_f1, qa_f2, m1, m2, m3, m4]) (by simp (disch := omega) only [↓reduceIte, ↓qa_b, qa_b, qa_lit, qa_neg1, qa_qN, nI_add, pk_mul, qa_ix, qa_cl, qa_ltT, qa_ltF, qa_eqT, qa_eqF, qa_nN, qa_Nn, qa_ltN, qa_Nlt, qa_NN, qa_ltNN, qa_sub, qa_dec, qa_dec0, qa_sub0, qa_incN, qa_31, qa_shr, qa_shl, qa_and1, va_up_self, qa_une, pk_us, pk_un, qa_up2, qa_upd2, Option.bind_some, if_true, if_false, and_true, true_and, and_self, qa_f1, qa_f2]) (by simp (disch := omega) only [↓reduceIte, ↓qa_b, qa_b, qa_lit, qa_neg1, qa_qN, nI_add, pk_mul, qa_ix, qa_cl, qa_ltT, qa_ltF, qa_eqT, qa_eqF, qa_nN, qa_Nn, qa_ltN, qa_Nlt, qa_NN, qa_ltNN, qa_sub, qa_dec, qa_dec0, qa_sub0, qa_incN, qa_31, qa_shr, qa_shl, qa_and1, va_up_self, qa_une, pk_us, pk_un, qa_up2, qa_upd2, Option.bind_some, if_true, if_false, and_true, true_and, and_self, qa_f1, qa_f2])
  refine ⟨h', ?_, fun c c1 c2 => by rw [fr c c1 c2, qa_une _ _ c1]⟩
  rw [Nat.zero_add] at e
  unfold zL_isShown
  simp (disch := omega) only [en, Option.bind_some, ↓qa_b, va_up_self, qa_up2, qa_lit]
  exact e
theorem qm_shown (HA : qi_a L P pn fn tn bn (w.1 84)) (hP : P ≤ 8) (hask : qk_askM w) {t f s c : Nat} (ht : t < bn) (hf : f < fn) (ho : qs_on (w.1 84) t f = true) (hs : s < 8) (K : Int32 → Int32 → Int32 → Int32 → zHM → Option (Int32 × zHM)) : ∀ (k n g acc : Nat) (u : zHM), g + k = fn → k < n → acc ≤ g → qf_s w u → u.1 89 0 = nI f → u.1 89 1 = nI (qs_kd (w.1 84) f) → u.1 89 2 = nI (qs_pl (w.1 84) t f) → u.1 89 3 = nI t → u.1 89 8 = nI s → u.1 89 9 = nI acc →
    ∃ u', zM_sees_L73 K n (nI t) (nI s) (nI c) (nI f) (nI g) u = K (nI t) (nI s) (if qs_law (w.1 84) (w.1 86) 2 t f s (acc + qs_mn (w.1 84) t f g k) then nI (c ||| 2 ^ f) else nI c) (nI (f + 1)) u' ∧ qf_s w u'
  | 0, n + 1, g, acc, u, hg, _, hac, fr, n0, n1, n2, n3, n8, n9 => by
    obtain ⟨a0, a1, a4, a6, lpn, lfn, ltn, lbn⟩ := HA.1
    obtain ⟨k1, k2⟩ := qi_kd HA hf
    obtain ⟨p1, p2, p3⟩ := qi_plc HA hP ht hf ho
    have b1 : u.1 84 1 = nI fn := by rw [fr 84 (by omega) (by omega)]; exact a1
    obtain ⟨u', e1, e2⟩ := hask 2 u (qn_c f (qs_kd (w.1 84) f) (qs_pl (w.1 84) t f) t (s : Nat) (acc : Nat)) (by omega) (by rw [fr 84 (by omega) (by omega)]) (fr 86 (by omega) (by omega)) (fun v hv => by
      rcases (show v = 0 ∨ v = 1 ∨ v = 2 ∨ v = 3 ∨ v = 8 ∨ v = 9 by omega) with rfl | rfl | rfl | rfl | rfl | rfl
      · rw [n0]
        exact ⟨nI_toInt (by omega), qn_sm (by show 0 ≤ (f : Int) ∧ (f : Int) ≤ 100; omega)⟩
      · rw [n1]
        exact ⟨nI_toInt (by omega), qn_sm (by show 0 ≤ (qs_kd (w.1 84) f : Int) ∧ (qs_kd (w.1 84) f : Int) ≤ 100; omega)⟩
      · rw [n2]
        exact ⟨nI_toInt (by omega), qn_sm (by show 0 ≤ (qs_pl (w.1 84) t f : Int) ∧ (qs_pl (w.1 84) t f : Int) ≤ 100; omega)⟩
      · rw [n3]
        exact ⟨nI_toInt (by omega), qn_sm (by show 0 ≤ (t : Int) ∧ (t : Int) ≤ 100; omega)⟩
      · rw [n8]
        exact ⟨nI_toInt (by omega), qn_sm (by show 0 ≤ (s : Int) ∧ (s : Int) ≤ 100; omega)⟩
      · rw [n9]
        exact ⟨nI_toInt (by omega), qn_sm (by show 0 ≤ (acc : Int) ∧ (acc : Int) ≤ 100; omega)⟩)
    refine ⟨u', ?_, fun q h1 h2 => by rw [e2.1 q h2, fr q h1 h2]⟩
    have eq : zM_isSo (nI 2) u = some (qs_b (qs_law (w.1 84) (w.1 86) 2 t f s acc), u') := e1
    rw [show acc + qs_mn (w.1 84) t f g 0 = acc from rfl]
    have eS := qa_1shl (i := f) (by omega)
    cases hl : qs_law (w.1 84) (w.1 86) 2 t f s acc
    · rw [hl] at eq
      simp (disch := omega) only [↓reduceIte, ↓qa_b, zM_sees_L73, b1, qa_ltF, qa_lit, eq, Option.bind_some, qs_b0, fa_or, Nat.or_zero, nI_add, Bool.false_eq_true]
    · rw [hl] at eq
      simp (disch := omega) only [↓reduceIte, ↓qa_b, zM_sees_L73, b1, qa_ltF, qa_lit, eq, Option.bind_some, qs_b0, fa_or, qa_31, eS, nI_add, Bool.true_eq_false]
  | k + 1, n + 1, g, acc, u, hg, hn, hac, fr, n0, n1, n2, n3, n8, n9 => by
    obtain ⟨a0, a1, a4, a6, lpn, lfn, ltn, lbn⟩ := HA.1
    have b1 : u.1 84 1 = nI fn := by rw [fr 84 (by omega) (by omega)]; exact a1
    have eg := qm_placeOf (w := u) (t := t) (f := g) (by omega) (by omega)
    have ef := qm_placeOf (w := u) (t := t) (f := f) (by omega) (by omega)
    rw [fr 84 (by omega) (by omega)] at eg ef
    unfold qs_mn
    by_cases hq : w.1 84 (50 + 6 * t + g) = w.1 84 (50 + 6 * t + f)
    · rw [if_pos hq]
      obtain ⟨u', e, fr'⟩ := qm_shown HA hP hask (c := c) ht hf ho hs K k n (g + 1) (acc + 1) (va_up u.1 89 (upd (u.1 89) 9 (nI (acc + 1))), u.2) (by omega) (by omega) (by omega) (fun q h1 h2 => by rw [qa_f1, qa_une _ _ h1]; exact fr q h1 h2) (by simp (disch := omega) only [↓reduceIte, ↓qa_b, qa_b, qa_lit, qa_neg1, qa_qN, nI_add, pk_mul, qa_ix, qa_cl, qa_ltT, qa_ltF, qa_eqT, qa_eqF, qa_nN, qa_Nn, qa_ltN, qa_Nlt, qa_NN, qa_ltNN, qa_sub, qa_dec, qa_dec0, qa_sub0, qa_incN, qa_31, qa_shr, qa_shl, qa_and1, va_up_self, qa_une, pk_us, pk_un, qa_up2, qa_upd2, Option.bind_some, if_true, if_false, and_true, true_and, and_self, qa_f1, qa_f2, n0]) (by simp (disch := omega) only [↓reduceIte, ↓qa_b, qa_b, qa_lit, qa_neg1, qa_qN, nI_add, pk_mul, qa_ix, qa_cl, qa_ltT, qa_ltF, qa_eqT, qa_eqF, qa_nN, qa_Nn, qa_ltN, qa_Nlt, qa_NN, qa_ltNN, qa_sub, qa_dec, qa_dec0, qa_sub0, qa_incN, qa_31, qa_shr, qa_shl, qa_and1, va_up_self, qa_une, pk_us, pk_un, qa_up2, qa_upd2, Option.bind_some, if_true, if_false, and_true, true_and, and_self, qa_f1, qa_f2, n1]) (by simp (disch := omega) only [↓reduceIte, ↓qa_b, qa_b, qa_lit, qa_neg1, qa_qN, nI_add, pk_mul, qa_ix, qa_cl, qa_ltT, qa_ltF, qa_eqT, qa_eqF, qa_nN, qa_Nn, qa_ltN, qa_Nlt, qa_NN, qa_ltNN, qa_sub, qa_dec, qa_dec0, qa_sub0, qa_incN, qa_31, qa_shr, qa_shl, qa_and1, va_up_self, qa_une, pk_us, pk_un, qa_up2, qa_upd2, Option.bind_some, if_true, if_false, and_true, true_and, and_self, qa_f1, qa_f2, n2]) (by simp (disch := omega) only [↓reduceIte, ↓qa_b, qa_b, qa_lit, qa_neg1, qa_qN, nI_add, pk_mul, qa_ix, qa_cl, qa_ltT, qa_ltF, qa_eqT, qa_eqF, qa_nN, qa_Nn, qa_ltN, qa_Nlt, qa_NN, qa_ltNN, qa_sub, qa_dec, qa_dec0, qa_sub0, qa_incN, qa_31, qa_shr, qa_shl, qa_and1, va_up_self, qa_une, pk_us, pk_un, qa_up2, qa_upd2, Option.bind_some, if_true, if_false, and_true, true_and, and_self, qa_f1, qa_f2, n3]) (by simp (disch := omega) only [↓reduceIte, ↓qa_b, qa_b, qa_lit, qa_neg1, qa_qN, nI_add, pk_mul, qa_ix, qa_cl, qa_ltT, qa_ltF, qa_eqT, qa_eqF, qa_nN, qa_Nn, qa_ltN, qa_Nlt, qa_NN, qa_ltNN, qa_sub, qa_dec, qa_dec0, qa_sub0, qa_incN, qa_31, qa_shr, qa_shl, qa_and1, va_up_self, qa_une, pk_us, pk_un, qa_up2, qa_upd2, Option.bind_some, if_true, if_false, and_true, true_and, and_self, qa_f1, qa_f2, n8]) (by simp (disch := omega) only [↓reduceIte, ↓qa_b, qa_b, qa_lit, qa_neg1, qa_qN, nI_add, pk_mul, qa_ix, qa_cl, qa_ltT, qa_ltF, qa_eqT, qa_eqF, qa_nN, qa_Nn, qa_ltN, qa_Nlt, qa_NN, qa_ltNN, qa_sub, qa_dec, qa_dec0, qa_sub0, qa_incN, qa_31, qa_shr, qa_shl, qa_and1, va_up_self, qa_une, pk_us, pk_un, qa_up2, qa_upd2, Option.bind_some, if_true, if_false, and_true, true_and, and_self, qa_f1, qa_f2])
      refine ⟨u', ?_, fr'⟩
      rw [← Nat.add_assoc]
      simp (disch := omega) only [↓reduceIte, ↓qa_b, zM_sees_L73, b1, qa_ltT, eg, ef, Option.bind_some, hq, n9, nI_add, qa_lit]
      exact e
    · rw [if_neg hq, Nat.zero_add]
      obtain ⟨u', e, fr'⟩ := qm_shown HA hP hask (c := c) ht hf ho hs K k n (g + 1) acc (va_up u.1 89 (upd (u.1 89) 9 (nI acc)), u.2) (by omega) (by omega) (by omega) (fun q h1 h2 => by rw [qa_f1, qa_une _ _ h1]; exact fr q h1 h2) (by simp (disch := omega) only [↓reduceIte, ↓qa_b, qa_b, qa_lit, qa_neg1, qa_qN, nI_add, pk_mul, qa_ix, qa_cl, qa_ltT, qa_ltF, qa_eqT, qa_eqF, qa_nN, qa_Nn, qa_ltN, qa_Nlt, qa_NN, qa_ltNN, qa_sub, qa_dec, qa_dec0, qa_sub0, qa_incN, qa_31, qa_shr, qa_shl, qa_and1, va_up_self, qa_une, pk_us, pk_un, qa_up2, qa_upd2, Option.bind_some, if_true, if_false, and_true, true_and, and_self, qa_f1, qa_f2, n0]) (by simp (disch := omega) only [↓reduceIte, ↓qa_b, qa_b, qa_lit, qa_neg1, qa_qN, nI_add, pk_mul, qa_ix, qa_cl, qa_ltT, qa_ltF, qa_eqT, qa_eqF, qa_nN, qa_Nn, qa_ltN, qa_Nlt, qa_NN, qa_ltNN, qa_sub, qa_dec, qa_dec0, qa_sub0, qa_incN, qa_31, qa_shr, qa_shl, qa_and1, va_up_self, qa_une, pk_us, pk_un, qa_up2, qa_upd2, Option.bind_some, if_true, if_false, and_true, true_and, and_self, qa_f1, qa_f2, n1]) (by simp (disch := omega) only [↓reduceIte, ↓qa_b, qa_b, qa_lit, qa_neg1, qa_qN, nI_add, pk_mul, qa_ix, qa_cl, qa_ltT, qa_ltF, qa_eqT, qa_eqF, qa_nN, qa_Nn, qa_ltN, qa_Nlt, qa_NN, qa_ltNN, qa_sub, qa_dec, qa_dec0, qa_sub0, qa_incN, qa_31, qa_shr, qa_shl, qa_and1, va_up_self, qa_une, pk_us, pk_un, qa_up2, qa_upd2, Option.bind_some, if_true, if_false, and_true, true_and, and_self, qa_f1, qa_f2, n2]) (by simp (disch := omega) only [↓reduceIte, ↓qa_b, qa_b, qa_lit, qa_neg1, qa_qN, nI_add, pk_mul, qa_ix, qa_cl, qa_ltT, qa_ltF, qa_eqT, qa_eqF, qa_nN, qa_Nn, qa_ltN, qa_Nlt, qa_NN, qa_ltNN, qa_sub, qa_dec, qa_dec0, qa_sub0, qa_incN, qa_31, qa_shr, qa_shl, qa_and1, va_up_self, qa_une, pk_us, pk_un, qa_up2, qa_upd2, Option.bind_some, if_true, if_false, and_true, true_and, and_self, qa_f1, qa_f2, n3]) (by simp (disch := omega) only [↓reduceIte, ↓qa_b, qa_b, qa_lit, qa_neg1, qa_qN, nI_add, pk_mul, qa_ix, qa_cl, qa_ltT, qa_ltF, qa_eqT, qa_eqF, qa_nN, qa_Nn, qa_ltN, qa_Nlt, qa_NN, qa_ltNN, qa_sub, qa_dec, qa_dec0, qa_sub0, qa_incN, qa_31, qa_shr, qa_shl, qa_and1, va_up_self, qa_une, pk_us, pk_un, qa_up2, qa_upd2, Option.bind_some, if_true, if_false, and_true, true_and, and_self, qa_f1, qa_f2, n8]) (by simp (disch := omega) only [↓reduceIte, ↓qa_b, qa_b, qa_lit, qa_neg1, qa_qN, nI_add, pk_mul, qa_ix, qa_cl, qa_ltT, qa_ltF, qa_eqT, qa_eqF, qa_nN, qa_Nn, qa_ltN, qa_Nlt, qa_NN, qa_ltNN, qa_sub, qa_dec, qa_dec0, qa_sub0, qa_incN, qa_31, qa_shr, qa_shl, qa_and1, va_up_self, qa_une, pk_us, pk_un, qa_up2, qa_upd2, Option.bind_some, if_true, if_false, and_true, true_and, and_self, qa_f1, qa_f2])
      refine ⟨u', ?_, fr'⟩
      simp (disch := omega) only [↓reduceIte, ↓qa_b, zM_sees_L73, b1, qa_ltT, eg, ef, Option.bind_some, hq, n9, nI_add, qa_lit, Nat.add_zero]
      exact e
theorem qo_seesL (HA : qi_a L P pn fn tn bn (w.1 84)) (hP : P ≤ 8) (hask : qk_askM w) {x t s : Nat} (ht : t < bn) (hs : s < 8) : ∀ (k n f c : Nat) (h : Nat → Nat → Int32) (u : zHM), f + k = fn → k < n → qf_s w u → qi_stg 0 P pn fn tn bn h (w.1 84) → zH_ruling h = some x → qk_askH x h (w.1 84) (w.1 86) →
    ∃ r h' u', zH_sees_L30 n (nI t) (nI s) (nI c) (nI f) h = some (r, h') ∧ zM_sees_L23 n (nI t) (nI s) (nI c) (nI f) u = some (r, u') ∧ (∀ c, c ≠ 60 → c ≠ 61 → h' c = h c) ∧ qf_s w u'
  | 0, n + 1, f, c, h, u, hf, _, fr, HS, hru, hak => by
    obtain ⟨a0, a1, a4, a6, lpn, lfn, ltn, lbn⟩ := HA.1
    have s4 := (qi_stg0 HS).1.2.2.1
    have b1 : u.1 84 1 = nI fn := by rw [fr 84 (by omega) (by omega)]; exact a1
    refine ⟨nI c, h, u, ?_, ?_, fun _ _ _ => rfl, fr⟩
    · simp (disch := omega) only [↓reduceIte, ↓qa_b, qa_b, qa_lit, qa_neg1, qa_qN, nI_add, pk_mul, qa_ix, qa_cl, qa_ltT, qa_ltF, qa_eqT, qa_eqF, qa_nN, qa_Nn, qa_ltN, qa_Nlt, qa_NN, qa_ltNN, qa_sub, qa_dec, qa_dec0, qa_sub0, qa_incN, qa_31, qa_shr, qa_shl, qa_and1, va_up_self, qa_une, pk_us, pk_un, qa_up2, qa_upd2, Option.bind_some, if_true, if_false, and_true, true_and, and_self, qa_f1, qa_f2, zH_sees_L30, s4]
    · simp (disch := omega) only [↓reduceIte, ↓qa_b, qa_b, qa_lit, qa_neg1, qa_qN, nI_add, pk_mul, qa_ix, qa_cl, qa_ltT, qa_ltF, qa_eqT, qa_eqF, qa_nN, qa_Nn, qa_ltN, qa_Nlt, qa_NN, qa_ltNN, qa_sub, qa_dec, qa_dec0, qa_sub0, qa_incN, qa_31, qa_shr, qa_shl, qa_and1, va_up_self, qa_une, pk_us, pk_un, qa_up2, qa_upd2, Option.bind_some, if_true, if_false, and_true, true_and, and_self, qa_f1, qa_f2, zM_sees_L23, b1]
  | k + 1, n + 1, f, c, h, u, hf, hn, fr, HS, hru, hak => by
    obtain ⟨a0, a1, a4, a6, lpn, lfn, ltn, lbn⟩ := HA.1
    have s4 := (qi_stg0 HS).1.2.2.1
    have b1 : u.1 84 1 = nI fn := by rw [fr 84 (by omega) (by omega)]; exact a1
    have eon := qh_isOn HA HS ht (show f < fn by omega)
    have ef := qm_placeOf (w := u) (t := t) (f := f) (by omega) (by omega)
    rw [fr 84 (by omega) (by omega)] at ef
    rcases qi_pl HA hP ht (show f < fn by omega) with ⟨ho, hp⟩ | ⟨ho, y, hy, hp⟩
    · rw [ho] at eon
      rw [hp] at ef
      obtain ⟨r, h', u', e1, e2, e3⟩ := qo_seesL HA hP hask ht hs k n (f + 1) c h u (by omega) (by omega) fr HS hru hak
      refine ⟨r, h', u', ?_, ?_, e3⟩
      · simp (disch := omega) only [↓reduceIte, ↓qa_b, zH_sees_L30, s4, qa_ltT, eon, Option.bind_some, qs_b0, qa_lit, nI_add]
        exact e1
      · simp (disch := omega) only [↓reduceIte, ↓qa_b, zM_sees_L23, b1, qa_ltT, ef, Option.bind_some, qa_Nlt0, qa_lit, nI_add]
        exact e2
    · rw [ho] at eon
      obtain ⟨h1, e1, fr1⟩ := qk_isShown HA hP ht (show f < fn by omega) ho hs HS hak
      have en := qm_name (w := u) (t := t) (f := f) (by omega) (by omega)
      rw [fr 84 (by omega) (by omega)] at en
      obtain ⟨k1, k2⟩ := qi_kd HA (show f < fn by omega)
      obtain ⟨p1, p2, p3⟩ := qi_plc HA hP ht (show f < fn by omega) ho
      obtain ⟨u1, e2, fr2⟩ := qm_shown HA hP hask (c := c) ht (show f < fn by omega) ho hs (fun v1 v2 v3 v4 w => zM_sees_L23 n v1 v2 v3 v4 w) fn am_N 0 0 (va_up u.1 89 (upd (upd (upd (upd (upd (upd (u.1 89) 0 (nI f)) 1 (w.1 84 (20 + 2 * f))) 2 (w.1 84 (50 + 6 * t + f))) 3 (nI t)) 8 (nI s)) 9 (nI 0)), u.2) (by omega) (Nat.lt_of_le_of_lt lfn (by decide)) (by omega) (fun q h1 h2 => by rw [qa_f1, qa_une _ _ h1]; exact fr q h1 h2) (by simp (disch := omega) only [↓reduceIte, ↓qa_b, qa_b, qa_lit, qa_neg1, qa_qN, nI_add, pk_mul, qa_ix, qa_cl, qa_ltT, qa_ltF, qa_eqT, qa_eqF, qa_nN, qa_Nn, qa_ltN, qa_Nlt, qa_NN, qa_ltNN, qa_sub, qa_dec, qa_dec0, qa_sub0, qa_incN, qa_31, qa_shr, qa_shl, qa_and1, va_up_self, qa_une, pk_us, pk_un, qa_up2, qa_upd2, Option.bind_some, if_true, if_false, and_true, true_and, and_self, qa_f1, qa_f2]) (by simp (disch := omega) only [↓reduceIte, ↓qa_b, qa_b, qa_lit, qa_neg1, qa_qN, nI_add, pk_mul, qa_ix, qa_cl, qa_ltT, qa_ltF, qa_eqT, qa_eqF, qa_nN, qa_Nn, qa_ltN, qa_Nlt, qa_NN, qa_ltNN, qa_sub, qa_dec, qa_dec0, qa_sub0, qa_incN, qa_31, qa_shr, qa_shl, qa_and1, va_up_self, qa_une, pk_us, pk_un, qa_up2, qa_upd2, Option.bind_some, if_true, if_false, and_true, true_and, and_self, qa_f1, qa_f2, k1]) (by simp (disch := omega) only [↓reduceIte, ↓qa_b, qa_b, qa_lit, qa_neg1, qa_qN, nI_add, pk_mul, qa_ix, qa_cl, qa_ltT, qa_ltF, qa_eqT, qa_eqF, qa_nN, qa_Nn, qa_ltN, qa_Nlt, qa_NN, qa_ltNN, qa_sub, qa_dec, qa_dec0, qa_sub0, qa_incN, qa_31, qa_shr, qa_shl, qa_and1, va_up_self, qa_une, pk_us, pk_un, qa_up2, qa_upd2, Option.bind_some, if_true, if_false, and_true, true_and, and_self, qa_f1, qa_f2, p1]) (by simp (disch := omega) only [↓reduceIte, ↓qa_b, qa_b, qa_lit, qa_neg1, qa_qN, nI_add, pk_mul, qa_ix, qa_cl, qa_ltT, qa_ltF, qa_eqT, qa_eqF, qa_nN, qa_Nn, qa_ltN, qa_Nlt, qa_NN, qa_ltNN, qa_sub, qa_dec, qa_dec0, qa_sub0, qa_incN, qa_31, qa_shr, qa_shl, qa_and1, va_up_self, qa_une, pk_us, pk_un, qa_up2, qa_upd2, Option.bind_some, if_true, if_false, and_true, true_and, and_self, qa_f1, qa_f2]) (by simp (disch := omega) only [↓reduceIte, ↓qa_b, qa_b, qa_lit, qa_neg1, qa_qN, nI_add, pk_mul, qa_ix, qa_cl, qa_ltT, qa_ltF, qa_eqT, qa_eqF, qa_nN, qa_Nn, qa_ltN, qa_Nlt, qa_NN, qa_ltNN, qa_sub, qa_dec, qa_dec0, qa_sub0, qa_incN, qa_31, qa_shr, qa_shl, qa_and1, va_up_self, qa_une, pk_us, pk_un, qa_up2, qa_upd2, Option.bind_some, if_true, if_false, and_true, true_and, and_self, qa_f1, qa_f2]) (by simp (disch := omega) only [↓reduceIte, ↓qa_b, qa_b, qa_lit, qa_neg1, qa_qN, nI_add, pk_mul, qa_ix, qa_cl, qa_ltT, qa_ltF, qa_eqT, qa_eqF, qa_nN, qa_Nn, qa_ltN, qa_Nlt, qa_NN, qa_ltNN, qa_sub, qa_dec, qa_dec0, qa_sub0, qa_incN, qa_31, qa_shr, qa_shl, qa_and1, va_up_self, qa_une, pk_us, pk_un, qa_up2, qa_upd2, Option.bind_some, if_true, if_false, and_true, true_and, and_self, qa_f1, qa_f2])
      rw [Nat.zero_add] at e2
      have HS1 := qi_stg_h (h' := h1) (fun c _ hc => fr1 c (by omega) (by omega)) HS
      have hru1 : zH_ruling h1 = some x := by
        rw [← hru]
        unfold zH_ruling zH_isText
        rw [fr1 1 (by omega) (by omega)]
      have hak1 := qk_askH_h hak (h2 := h1) (fun c hc => fr1 c (by omega) (by omega))
      have sM : zM_sees_L23 (n + 1) (nI t) (nI s) (nI c) (nI f) u = zM_sees_L73 (fun v1 v2 v3 v4 w => zM_sees_L23 n v1 v2 v3 v4 w) am_N (nI t) (nI s) (nI c) (nI f) (nI 0) (va_up u.1 89 (upd (upd (upd (upd (upd (upd (u.1 89) 0 (nI f)) 1 (w.1 84 (20 + 2 * f))) 2 (w.1 84 (50 + 6 * t + f))) 3 (nI t)) 8 (nI s)) 9 (nI 0)), u.2) := by
        simp (disch := omega) only [↓reduceIte, ↓qa_b, zM_sees_L23, b1, qa_ltT, ef, hp, Option.bind_some, qa_ltF, en, va_up_self, qa_up2, qa_lit]
      have eS := qa_1shl (i := f) (by omega)
      cases hl : qs_law (w.1 84) (w.1 86) 2 t f s (qs_mn (w.1 84) t f 0 fn)
      · rw [hl] at e1 e2
        obtain ⟨r, h', u', e4, e5, e6, e7⟩ := qo_seesL HA hP hask ht hs k n (f + 1) c h1 u1 (by omega) (by omega) fr2 HS1 hru1 hak1
        refine ⟨r, h', u', ?_, ?_, fun q q1 q2 => by rw [e6 q q1 q2, fr1 q q1 q2], e7⟩
        · simp (disch := omega) only [↓reduceIte, ↓qa_b, zH_sees_L30, s4, qa_ltT, eon, Option.bind_some, qs_b0, Bool.true_eq_false, hru, e1, qa_lit, nI_add]
          exact e4
        · refine sM.trans (e2.trans ?_)
          simp only [Bool.false_eq_true, if_false]
          exact e5
      · rw [hl] at e1 e2
        obtain ⟨r, h', u', e4, e5, e6, e7⟩ := qo_seesL HA hP hask ht hs k n (f + 1) (c ||| 2 ^ f) h1 u1 (by omega) (by omega) fr2 HS1 hru1 hak1
        refine ⟨r, h', u', ?_, ?_, fun q q1 q2 => by rw [e6 q q1 q2, fr1 q q1 q2], e7⟩
        · simp (disch := omega) only [↓reduceIte, ↓qa_b, zH_sees_L30, s4, qa_ltT, eon, Option.bind_some, qs_b0, Bool.true_eq_false, hru, e1, qa_lit, nI_add, qa_31, eS, fa_or]
          exact e4
        · refine sM.trans (e2.trans ?_)
          simp only [if_true]
          exact e5
end
section
variable {k P pn fn tn bn pn' fn' tn' bn' tl : Nat} {h : Nat → Nat → Int32} {w : zHM}
theorem qo_sees (H : qi_core k P pn fn tn bn pn' fn' tn' bn' tl h w) (v1 v2 : Int32) : ∃ r h' w', zH_sees v1 v2 h = some (r, h') ∧ zM_sees v1 v2 w = some (r, w') ∧ (∀ c, c ≠ 60 → c ≠ 61 → h' c = h c) ∧ qf_s w w' := by
  obtain ⟨⟨x, hru, hx, hakH⟩, hakM⟩ := qk_ask H
  obtain ⟨⟨hP3, hP8, hP, htn⟩, HA, -, HS, -⟩ := H
  obtain ⟨a0, a1, a4, a6, lpn, lfn, ltn, lbn⟩ := id HA.1
  have s0 := (qi_stg0 HS).1.1
  have s13 := (qi_stg0 HS).1.2.2.2.2.2.2.2
  have q2 := qm_beat a6 lbn v1
  have q1 := qm_place hP hP8 v2
  rcases qa_arg v1 bn with hv | ⟨y, hy, hy', rfl⟩ | ⟨y, hy, hy', rfl⟩
  · refine ⟨qN, h, w, ?_, ?_, fun _ _ _ => rfl, qf_s.rf w⟩
    · simp (disch := omega) only [↓reduceIte, ↓qa_b, qa_b, qa_lit, qa_neg1, qa_qN, nI_add, pk_mul, qa_ix, qa_cl, qa_ltT, qa_ltF, qa_eqT, qa_eqF, qa_nN, qa_Nn, qa_ltN, qa_Nlt, qa_NN, qa_ltNN, qa_sub, qa_dec, qa_dec0, qa_sub0, qa_incN, qa_31, qa_shr, qa_shl, qa_and1, va_up_self, qa_une, pk_us, pk_un, qa_up2, qa_upd2, Option.bind_some, if_true, if_false, and_true, true_and, and_self, qa_f1, qa_f2, zH_sees, zH_isBeat, hv]
    · simp (disch := omega) only [↓reduceIte, ↓qa_b, qa_b, qa_lit, qa_neg1, qa_qN, nI_add, pk_mul, qa_ix, qa_cl, qa_ltT, qa_ltF, qa_eqT, qa_eqF, qa_nN, qa_Nn, qa_ltN, qa_Nlt, qa_NN, qa_ltNN, qa_sub, qa_dec, qa_dec0, qa_sub0, qa_incN, qa_31, qa_shr, qa_shl, qa_and1, va_up_self, qa_une, pk_us, pk_un, qa_up2, qa_upd2, Option.bind_some, if_true, if_false, and_true, true_and, and_self, qa_f1, qa_f2, zM_sees, q2, hv]
  · refine ⟨qN, h, w, ?_, ?_, fun _ _ _ => rfl, qf_s.rf w⟩
    · simp (disch := omega) only [↓reduceIte, ↓qa_b, qa_b, qa_lit, qa_neg1, qa_qN, nI_add, pk_mul, qa_ix, qa_cl, qa_ltT, qa_ltF, qa_eqT, qa_eqF, qa_nN, qa_Nn, qa_ltN, qa_Nlt, qa_NN, qa_ltNN, qa_sub, qa_dec, qa_dec0, qa_sub0, qa_incN, qa_31, qa_shr, qa_shl, qa_and1, va_up_self, qa_une, pk_us, pk_un, qa_up2, qa_upd2, Option.bind_some, if_true, if_false, and_true, true_and, and_self, qa_f1, qa_f2, zH_sees, zH_isBeat, s13]
    · simp (disch := omega) only [↓reduceIte, ↓qa_b, qa_b, qa_lit, qa_neg1, qa_qN, nI_add, pk_mul, qa_ix, qa_cl, qa_ltT, qa_ltF, qa_eqT, qa_eqF, qa_nN, qa_Nn, qa_ltN, qa_Nlt, qa_NN, qa_ltNN, qa_sub, qa_dec, qa_dec0, qa_sub0, qa_incN, qa_31, qa_shr, qa_shl, qa_and1, va_up_self, qa_une, pk_us, pk_un, qa_up2, qa_upd2, Option.bind_some, if_true, if_false, and_true, true_and, and_self, qa_f1, qa_f2, zM_sees, q2]
  rcases qa_arg v2 P with hv | ⟨z, hz, hz', rfl⟩ | ⟨z, hz, hz', rfl⟩
  · refine ⟨qN, h, w, ?_, ?_, fun _ _ _ => rfl, qf_s.rf w⟩
    · simp (disch := omega) only [↓reduceIte, ↓qa_b, qa_b, qa_lit, qa_neg1, qa_qN, nI_add, pk_mul, qa_ix, qa_cl, qa_ltT, qa_ltF, qa_eqT, qa_eqF, qa_nN, qa_Nn, qa_ltN, qa_Nlt, qa_NN, qa_ltNN, qa_sub, qa_dec, qa_dec0, qa_sub0, qa_incN, qa_31, qa_shr, qa_shl, qa_and1, va_up_self, qa_une, pk_us, pk_un, qa_up2, qa_upd2, Option.bind_some, if_true, if_false, and_true, true_and, and_self, qa_f1, qa_f2, zH_sees, zH_isBeat, s13, hv]
    · simp (disch := omega) only [↓reduceIte, ↓qa_b, qa_b, qa_lit, qa_neg1, qa_qN, nI_add, pk_mul, qa_ix, qa_cl, qa_ltT, qa_ltF, qa_eqT, qa_eqF, qa_nN, qa_Nn, qa_ltN, qa_Nlt, qa_NN, qa_ltNN, qa_sub, qa_dec, qa_dec0, qa_sub0, qa_incN, qa_31, qa_shr, qa_shl, qa_and1, va_up_self, qa_une, pk_us, pk_un, qa_up2, qa_upd2, Option.bind_some, if_true, if_false, and_true, true_and, and_self, qa_f1, qa_f2, zM_sees, q1, q2, hv]
  · refine ⟨qN, h, w, ?_, ?_, fun _ _ _ => rfl, qf_s.rf w⟩
    · simp (disch := omega) only [↓reduceIte, ↓qa_b, qa_b, qa_lit, qa_neg1, qa_qN, nI_add, pk_mul, qa_ix, qa_cl, qa_ltT, qa_ltF, qa_eqT, qa_eqF, qa_nN, qa_Nn, qa_ltN, qa_Nlt, qa_NN, qa_ltNN, qa_sub, qa_dec, qa_dec0, qa_sub0, qa_incN, qa_31, qa_shr, qa_shl, qa_and1, va_up_self, qa_une, pk_us, pk_un, qa_up2, qa_upd2, Option.bind_some, if_true, if_false, and_true, true_and, and_self, qa_f1, qa_f2, zH_sees, zH_isBeat, s13, s0]
    · simp (disch := omega) only [↓reduceIte, ↓qa_b, qa_b, qa_lit, qa_neg1, qa_qN, nI_add, pk_mul, qa_ix, qa_cl, qa_ltT, qa_ltF, qa_eqT, qa_eqF, qa_nN, qa_Nn, qa_ltN, qa_Nlt, qa_NN, qa_ltNN, qa_sub, qa_dec, qa_dec0, qa_sub0, qa_incN, qa_31, qa_shr, qa_shl, qa_and1, va_up_self, qa_une, pk_us, pk_un, qa_up2, qa_upd2, Option.bind_some, if_true, if_false, and_true, true_and, and_self, qa_f1, qa_f2, zM_sees, q1, q2]
  · obtain ⟨r, h', u', e1, e2, e3, e4⟩ := qo_seesL HA hP8 hakM (t := y) (s := z) hy (by omega) fn am_N 0 0 h w (by omega) (Nat.lt_of_le_of_lt lfn (by decide)) (qf_s.rf w) HS hru hakH
    refine ⟨r, h', u', ?_, ?_, e3, e4⟩
    · simp (disch := omega) only [↓reduceIte, ↓qa_b, qa_b, qa_lit, qa_neg1, qa_qN, nI_add, pk_mul, qa_ix, qa_cl, qa_ltT, qa_ltF, qa_eqT, qa_eqF, qa_nN, qa_Nn, qa_ltN, qa_Nlt, qa_NN, qa_ltNN, qa_sub, qa_dec, qa_dec0, qa_sub0, qa_incN, qa_31, qa_shr, qa_shl, qa_and1, va_up_self, qa_une, pk_us, pk_un, qa_up2, qa_upd2, Option.bind_some, if_true, if_false, and_true, true_and, and_self, qa_f1, qa_f2, zH_sees, zH_isBeat, s13, s0]
      exact e1
    · simp (disch := omega) only [↓reduceIte, ↓qa_b, qa_b, qa_lit, qa_neg1, qa_qN, nI_add, pk_mul, qa_ix, qa_cl, qa_ltT, qa_ltF, qa_eqT, qa_eqF, qa_nN, qa_Nn, qa_ltN, qa_Nlt, qa_NN, qa_ltNN, qa_sub, qa_dec, qa_dec0, qa_sub0, qa_incN, qa_31, qa_shr, qa_shl, qa_and1, va_up_self, qa_une, pk_us, pk_un, qa_up2, qa_upd2, Option.bind_some, if_true, if_false, and_true, true_and, and_self, qa_f1, qa_f2, zM_sees, q1, q2]
      exact e2
end
