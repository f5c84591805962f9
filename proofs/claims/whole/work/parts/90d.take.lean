/-! THE HEART: take, least -/
section
variable {k P pn fn tn bn pn' fn' tn' bn' tl : Nat} {h : Nat → Nat → Int32} {w : zHM}
theorem qo_take (H : qi_core k P pn fn tn bn pn' fn' tn' bn' tl h w) (C : qi_cch pn fn bn h (w.1 84) (w.1 86)) (v1 : Int32) : ∃ r h' w', zH_take v1 h = some (r, h') ∧ zM_take v1 w = some (r, w') ∧ qi_core (k + 1) P pn fn tn bn pn' fn' tn' bn' tl h' w' ∧ qi_cch pn fn bn h' (w'.1 84) (w'.1 86) := by
  obtain ⟨⟨hP3, hP8, hP, htn⟩, HA, -, HS, -⟩ := id H
  have s1 := (qi_stg0 HS).1.2.1
  rcases qo_isSet HA.1.2.2.2.2.1 HA.1.1 s1 v1 with ⟨e1, e2⟩ | ⟨e1, e2, st, hs, rfl⟩
  · have z1 : zH_fewest v1 h = some (qN, h) := by simp (disch := omega) only [↓reduceIte, ↓qa_b, qa_b, qa_lit, qa_neg1, qa_qN, nI_add, pk_mul, qa_ix, qa_cl, qa_ltT, qa_ltF, qa_eqT, qa_eqF, qa_nN, qa_Nn, qa_ltN, qa_Nlt, qa_NN, qa_ltNN, qa_sub, qa_dec, qa_dec0, qa_sub0, qa_incN, qa_31, qa_shr, qa_shl, qa_and1, va_up_self, qa_une, pk_us, pk_un, qa_up2, qa_upd2, Option.bind_some, if_true, if_false, and_true, true_and, and_self, qa_f1, qa_f2, zH_fewest, e1]
    have z2 : zM_fewest v1 w = some (qN, w) := by simp (disch := omega) only [↓reduceIte, ↓qa_b, qa_b, qa_lit, qa_neg1, qa_qN, nI_add, pk_mul, qa_ix, qa_cl, qa_ltT, qa_ltF, qa_eqT, qa_eqF, qa_nN, qa_Nn, qa_ltN, qa_Nlt, qa_NN, qa_ltNN, qa_sub, qa_dec, qa_dec0, qa_sub0, qa_incN, qa_31, qa_shr, qa_shl, qa_and1, va_up_self, qa_une, pk_us, pk_un, qa_up2, qa_upd2, Option.bind_some, if_true, if_false, and_true, true_and, and_self, qa_f1, qa_f2, zM_fewest, e2]
    refine ⟨qN, h, w, ?_, ?_, qi_core_k (by omega) H, C⟩
    · simp (disch := omega) only [qa_b, qa_lit, qa_neg1, qa_qN, nI_add, pk_mul, qa_ix, qa_cl, qa_ltT, qa_ltF, qa_eqT, qa_eqF, qa_nN, qa_Nn, qa_ltN, qa_Nlt, qa_NN, qa_ltNN, qa_sub, qa_dec, qa_dec0, qa_sub0, qa_incN, qa_31, qa_shr, qa_shl, qa_and1, va_up_self, qa_une, pk_us, pk_un, qa_up2, qa_upd2, Option.bind_some, if_true, if_false, and_true, true_and, and_self, qa_f1, qa_f2, zH_take, z1]
    · simp (disch := omega) only [qa_b, qa_lit, qa_neg1, qa_qN, nI_add, pk_mul, qa_ix, qa_cl, qa_ltT, qa_ltF, qa_eqT, qa_eqF, qa_nN, qa_Nn, qa_ltN, qa_Nlt, qa_NN, qa_ltNN, qa_sub, qa_dec, qa_dec0, qa_sub0, qa_incN, qa_31, qa_shr, qa_shl, qa_and1, va_up_self, qa_une, pk_us, pk_un, qa_up2, qa_upd2, Option.bind_some, if_true, if_false, and_true, true_and, and_self, qa_f1, qa_f2, zM_take, z2, qa_Nlt0]
  · obtain ⟨r, pl, h1, w1, x1, x2, x3, x4, x5⟩ := qo_few H C hs e1 e2
    have h8 := (qs_set_tb pn (by have := HA.1.2.2.2.2.1; omega) st hs).1
    by_cases hR : r < 1000000
    · rw [if_pos hR] at x1 x2
      obtain ⟨z1, u, z2, z3, z4⟩ := x5 hR
      have scr : qi_scr h w h1 u := ⟨x3.1, fun c hc => by rw [z3 c (by omega), x3.2.1 c hc], fun j j1 j2 => by rw [z3 83 (by omega), x3.2.2 j j1 j2]⟩
      have H1 := qi_scr_core scr H
      have e84 : u.1 84 = w.1 84 := scr.2.1 84 (by omega)
      have e86 : u.1 86 = w.1 86 := scr.2.1 86 (by omega)
      obtain ⟨-, ⟨⟨a0, a1, a4, a6, lpn, lfn, ltn, lbn⟩, A2, A3, A5, Ap, Af, At⟩, -, HS1, -⟩ := id H1
      obtain ⟨⟨s0, s1, s4, s9, s10, s11, s12, s13⟩, Sp, Sf, Sg, St, Su, Sv⟩ := qi_stg0 HS1
      obtain ⟨v, y1, y2, y3, y4⟩ := qm_take18 (u := u) (pl := pl) lbn a6 (nI r) z4 bn am_N 0 u (by omega) (Nat.lt_of_le_of_lt lbn (by decide)) (fun _ _ => rfl) (fun _ _ => rfl) (fun t' ht' => by omega)
      generalize hg : va_up h1 9 (va_cpy (h1 79) (h1 9) (st * 144) 0 (bn * 6)) = g
      have g0 : ∀ c, c ≠ 9 → g c = h1 c := fun c a => by
        subst hg
        simp (disch := omega) only [↓reduceIte, ↓qa_b, qa_b, qa_lit, qa_neg1, qa_qN, nI_add, pk_mul, qa_ix, qa_cl, qa_ltT, qa_ltF, qa_eqT, qa_eqF, qa_nN, qa_Nn, qa_ltN, qa_Nlt, qa_NN, qa_ltNN, qa_sub, qa_dec, qa_dec0, qa_sub0, qa_incN, qa_31, qa_shr, qa_shl, qa_and1, va_up_self, qa_une, pk_us, pk_un, qa_up2, qa_upd2, Option.bind_some, if_true, if_false, and_true, true_and, and_self, qa_f1, qa_f2]
      have g9 : ∀ t, t < bn → ∀ f, f < 6 → g 9 (t * 6 + f) = nI (pl t f) := fun t ht f hf => by
        subst hg
        rw [va_up_self, pk_cpy_in (by omega) (by omega), show st * 144 + (t * 6 + f - 0) = st * 144 + (t * 6 + f) by omega]
        exact (z1 t ht f hf).1
      have g9' : ∀ j, bn * 6 ≤ j → g 9 j = h1 9 j := fun j hj => by
        subst hg
        rw [va_up_self, pk_cpy_out (by omega)]
      have lo : ∀ i, i < 200 → v.1 84 i = u.1 84 i := fun i hi => y3 i (Or.inl hi)
      refine ⟨nI r, g, v, ?_, ?_, ?_, ?_⟩
      · rw [← hg]
        have n1 : ¬ ((nI (st * 144) < nI 0 ∨ nI 0 < nI 0) ∨ (nI (bn * 6) < nI 0 ∨ 1152 < st * 144 + bn * 6) ∨ 144 < 0 + bn * 6) := by
          rw [qa_ltF (by omega) (by omega), qa_ltF (by omega) (by omega), qa_ltF (by omega) (by omega)]
          simp only [false_or]
          omega
        simp (disch := omega) only [↓reduceIte, ↓qa_b, zH_take, x1, Option.bind_some, qa_neg1, qa_qN, qa_nN, s13, qa_lit, pk_mul, qa_cl]
        unfold am_no
        rw [if_neg n1]
      · rw [← y1]
        simp (disch := omega) only [↓reduceIte, zM_take, x2, Option.bind_some, qa_lit, qa_ltF, z2]
      · refine qi_core_s H1 (fun c hc hc' => g0 c (by omega)) (y2 83 (by omega)) ⟨y2 85 (by omega), y2 86 (by omega), y2 87 (by omega)⟩ ?_ ?_
        · refine ⟨⟨by rw [lo 0 (by omega)]; exact a0, by rw [lo 1 (by omega)]; exact a1, by rw [lo 4 (by omega)]; exact a4, by rw [lo 6 (by omega)]; exact a6, lpn, lfn, ltn, lbn⟩, by rw [lo 2 (by omega)]; exact A2, by rw [lo 3 (by omega)]; exact A3, by rw [lo 5 (by omega)]; exact A5, fun p hp => by rw [lo _ (by omega), lo _ (by omega)]; exact Ap p hp, fun f hf => ?_, fun t f ht hf => ⟨by rw [lo _ (by omega)]; exact (At t f ht hf).1, pl t f, (z1 t ht f (by omega)).2.1, y4 t ht f (by omega)⟩⟩
          rw [lo _ (by omega), lo _ (by omega), lo _ (by omega), lo _ (by omega)]
          obtain ⟨b1, b2, ⟨z, hz, b3⟩, b4⟩ := Af f hf
          exact ⟨b1, b2, ⟨z, by omega, b3⟩, b4⟩
        · refine ⟨⟨?_, ?_, ?_, ?_, ?_, ?_, ?_, ?_⟩, fun p hp => ?_, fun f hf => ?_, fun f hf hf' => ?_, fun t f ht hf => ?_, fun t f ht hf hf' => ?_, fun t f ht hf hf' => ?_⟩
          · simp (disch := omega) only [qa_b, qa_lit, qa_neg1, qa_qN, nI_add, pk_mul, qa_ix, qa_cl, qa_ltT, qa_ltF, qa_eqT, qa_eqF, qa_nN, qa_Nn, qa_ltN, qa_Nlt, qa_NN, qa_ltNN, qa_sub, qa_dec, qa_dec0, qa_sub0, qa_incN, qa_31, qa_shr, qa_shl, qa_and1, va_up_self, qa_une, pk_us, pk_un, qa_up2, qa_upd2, Option.bind_some, if_true, if_false, and_true, true_and, and_self, qa_f1, qa_f2, g0, s0]
          · simp (disch := omega) only [qa_b, qa_lit, qa_neg1, qa_qN, nI_add, pk_mul, qa_ix, qa_cl, qa_ltT, qa_ltF, qa_eqT, qa_eqF, qa_nN, qa_Nn, qa_ltN, qa_Nlt, qa_NN, qa_ltNN, qa_sub, qa_dec, qa_dec0, qa_sub0, qa_incN, qa_31, qa_shr, qa_shl, qa_and1, va_up_self, qa_une, pk_us, pk_un, qa_up2, qa_upd2, Option.bind_some, if_true, if_false, and_true, true_and, and_self, qa_f1, qa_f2, g0, s1]
          · simp (disch := omega) only [qa_b, qa_lit, qa_neg1, qa_qN, nI_add, pk_mul, qa_ix, qa_cl, qa_ltT, qa_ltF, qa_eqT, qa_eqF, qa_nN, qa_Nn, qa_ltN, qa_Nlt, qa_NN, qa_ltNN, qa_sub, qa_dec, qa_dec0, qa_sub0, qa_incN, qa_31, qa_shr, qa_shl, qa_and1, va_up_self, qa_une, pk_us, pk_un, qa_up2, qa_upd2, Option.bind_some, if_true, if_false, and_true, true_and, and_self, qa_f1, qa_f2, g0, s4]
          · simp (disch := omega) only [qa_b, qa_lit, qa_neg1, qa_qN, nI_add, pk_mul, qa_ix, qa_cl, qa_ltT, qa_ltF, qa_eqT, qa_eqF, qa_nN, qa_Nn, qa_ltN, qa_Nlt, qa_NN, qa_ltNN, qa_sub, qa_dec, qa_dec0, qa_sub0, qa_incN, qa_31, qa_shr, qa_shl, qa_and1, va_up_self, qa_une, pk_us, pk_un, qa_up2, qa_upd2, Option.bind_some, if_true, if_false, and_true, true_and, and_self, qa_f1, qa_f2, g0, lo, s9]
          · simp (disch := omega) only [qa_b, qa_lit, qa_neg1, qa_qN, nI_add, pk_mul, qa_ix, qa_cl, qa_ltT, qa_ltF, qa_eqT, qa_eqF, qa_nN, qa_Nn, qa_ltN, qa_Nlt, qa_NN, qa_ltNN, qa_sub, qa_dec, qa_dec0, qa_sub0, qa_incN, qa_31, qa_shr, qa_shl, qa_and1, va_up_self, qa_une, pk_us, pk_un, qa_up2, qa_upd2, Option.bind_some, if_true, if_false, and_true, true_and, and_self, qa_f1, qa_f2, g0, lo, s10]
          · simp (disch := omega) only [qa_b, qa_lit, qa_neg1, qa_qN, nI_add, pk_mul, qa_ix, qa_cl, qa_ltT, qa_ltF, qa_eqT, qa_eqF, qa_nN, qa_Nn, qa_ltN, qa_Nlt, qa_NN, qa_ltNN, qa_sub, qa_dec, qa_dec0, qa_sub0, qa_incN, qa_31, qa_shr, qa_shl, qa_and1, va_up_self, qa_une, pk_us, pk_un, qa_up2, qa_upd2, Option.bind_some, if_true, if_false, and_true, true_and, and_self, qa_f1, qa_f2, g0, s11]
          · simp (disch := omega) only [qa_b, qa_lit, qa_neg1, qa_qN, nI_add, pk_mul, qa_ix, qa_cl, qa_ltT, qa_ltF, qa_eqT, qa_eqF, qa_nN, qa_Nn, qa_ltN, qa_Nlt, qa_NN, qa_ltNN, qa_sub, qa_dec, qa_dec0, qa_sub0, qa_incN, qa_31, qa_shr, qa_shl, qa_and1, va_up_self, qa_une, pk_us, pk_un, qa_up2, qa_upd2, Option.bind_some, if_true, if_false, and_true, true_and, and_self, qa_f1, qa_f2, g0, lo, s12]
          · simp (disch := omega) only [qa_b, qa_lit, qa_neg1, qa_qN, nI_add, pk_mul, qa_ix, qa_cl, qa_ltT, qa_ltF, qa_eqT, qa_eqF, qa_nN, qa_Nn, qa_ltN, qa_Nlt, qa_NN, qa_ltNN, qa_sub, qa_dec, qa_dec0, qa_sub0, qa_incN, qa_31, qa_shr, qa_shl, qa_and1, va_up_self, qa_une, pk_us, pk_un, qa_up2, qa_upd2, Option.bind_some, if_true, if_false, and_true, true_and, and_self, qa_f1, qa_f2, g0, s13]
          · rw [lo _ (by omega), lo _ (by omega)]
            simp (disch := omega) only [qa_b, qa_lit, qa_neg1, qa_qN, nI_add, pk_mul, qa_ix, qa_cl, qa_ltT, qa_ltF, qa_eqT, qa_eqF, qa_nN, qa_Nn, qa_ltN, qa_Nlt, qa_NN, qa_ltNN, qa_sub, qa_dec, qa_dec0, qa_sub0, qa_incN, qa_31, qa_shr, qa_shl, qa_and1, va_up_self, qa_une, pk_us, pk_un, qa_up2, qa_upd2, Option.bind_some, if_true, if_false, and_true, true_and, and_self, qa_f1, qa_f2, g0]
            exact Sp p hp
          · rw [lo _ (by omega), lo _ (by omega), lo _ (by omega), lo _ (by omega)]
            simp (disch := omega) only [qa_b, qa_lit, qa_neg1, qa_qN, nI_add, pk_mul, qa_ix, qa_cl, qa_ltT, qa_ltF, qa_eqT, qa_eqF, qa_nN, qa_Nn, qa_ltN, qa_Nlt, qa_NN, qa_ltNN, qa_sub, qa_dec, qa_dec0, qa_sub0, qa_incN, qa_31, qa_shr, qa_shl, qa_and1, va_up_self, qa_une, pk_us, pk_un, qa_up2, qa_upd2, Option.bind_some, if_true, if_false, and_true, true_and, and_self, qa_f1, qa_f2, g0]
            exact Sf f hf
          · simp (disch := omega) only [qa_b, qa_lit, qa_neg1, qa_qN, nI_add, pk_mul, qa_ix, qa_cl, qa_ltT, qa_ltF, qa_eqT, qa_eqF, qa_nN, qa_Nn, qa_ltN, qa_Nlt, qa_NN, qa_ltNN, qa_sub, qa_dec, qa_dec0, qa_sub0, qa_incN, qa_31, qa_shr, qa_shl, qa_and1, va_up_self, qa_une, pk_us, pk_un, qa_up2, qa_upd2, Option.bind_some, if_true, if_false, and_true, true_and, and_self, qa_f1, qa_f2, g0]
            exact Sg f hf hf'
          · rw [lo _ (by omega), y4 t ht f (by omega)]
            simp (disch := omega) only [qa_b, qa_lit, qa_neg1, qa_qN, nI_add, pk_mul, qa_ix, qa_cl, qa_ltT, qa_ltF, qa_eqT, qa_eqF, qa_nN, qa_Nn, qa_ltN, qa_Nlt, qa_NN, qa_ltNN, qa_sub, qa_dec, qa_dec0, qa_sub0, qa_incN, qa_31, qa_shr, qa_shl, qa_and1, va_up_self, qa_une, pk_us, pk_un, qa_up2, qa_upd2, Option.bind_some, if_true, if_false, and_true, true_and, and_self, qa_f1, qa_f2, g0]
            exact ⟨(St t f ht hf).1, g9 t ht f (by omega)⟩
          · simp (disch := omega) only [qa_b, qa_lit, qa_neg1, qa_qN, nI_add, pk_mul, qa_ix, qa_cl, qa_ltT, qa_ltF, qa_eqT, qa_eqF, qa_nN, qa_Nn, qa_ltN, qa_Nlt, qa_NN, qa_ltNN, qa_sub, qa_dec, qa_dec0, qa_sub0, qa_incN, qa_31, qa_shr, qa_shl, qa_and1, va_up_self, qa_une, pk_us, pk_un, qa_up2, qa_upd2, Option.bind_some, if_true, if_false, and_true, true_and, and_self, qa_f1, qa_f2, g0]
            exact Su t f ht hf hf'
          · rw [Nat.zero_add]
            rcases Nat.lt_or_ge t bn with q | q
            · rw [g9 t q f hf, (z1 t q f hf).2.2 (by omega)]
            · rw [g9' _ (by omega)]
              exact Sv t f ht hf hf'
      · have ea : qc_e (w.1 84) (v.1 84) (w.1 86) (w.1 86) := qc_e.of (fun j hj _ => by rw [lo j hj, e84])
        rw [y2 86 (by omega), e86]
        refine qi_cch_keep ea lpn lfn lbn (fun c _ _ => g0 c (by omega)) ?_ x4
        rw [g0 59 (by omega)]
        rcases x4.1 with q | ⟨q, qL⟩
        · exact Or.inl q
        · exact Or.inr ⟨q, fun t ht f hf => qk_ok_h ⟨by rw [g0 62 (by omega)], by rw [g0 63 (by omega)], by rw [g0 64 (by omega)]⟩ (qL t ht f hf)⟩
    · rw [if_neg hR] at x1 x2
      refine ⟨qN, h1, w1, ?_, ?_, qi_core_k (by omega) (qi_scr_core x3 H), ?_⟩
      · simp (disch := omega) only [qa_b, qa_lit, qa_neg1, qa_qN, nI_add, pk_mul, qa_ix, qa_cl, qa_ltT, qa_ltF, qa_eqT, qa_eqF, qa_nN, qa_Nn, qa_ltN, qa_Nlt, qa_NN, qa_ltNN, qa_sub, qa_dec, qa_dec0, qa_sub0, qa_incN, qa_31, qa_shr, qa_shl, qa_and1, va_up_self, qa_une, pk_us, pk_un, qa_up2, qa_upd2, Option.bind_some, if_true, if_false, and_true, true_and, and_self, qa_f1, qa_f2, zH_take, x1]
      · simp (disch := omega) only [qa_b, qa_lit, qa_neg1, qa_qN, nI_add, pk_mul, qa_ix, qa_cl, qa_ltT, qa_ltF, qa_eqT, qa_eqF, qa_nN, qa_Nn, qa_ltN, qa_Nlt, qa_NN, qa_ltNN, qa_sub, qa_dec, qa_dec0, qa_sub0, qa_incN, qa_31, qa_shr, qa_shl, qa_and1, va_up_self, qa_une, pk_us, pk_un, qa_up2, qa_upd2, Option.bind_some, if_true, if_false, and_true, true_and, and_self, qa_f1, qa_f2, zM_take, x2, qa_Nlt0]
      · rw [x3.2.1 84 (by omega), x3.2.1 86 (by omega)]
        exact x4
theorem qi_scr.tr {h h1 h2 : Nat → Nat → Int32} {w w1 w2 : zHM} (a : qi_scr h w h1 w1) (b : qi_scr h1 w1 h2 w2) : qi_scr h w h2 w2 := ⟨fun c hc => (b.1 c hc).trans (a.1 c hc), fun c hc => (b.2.1 c hc).trans (a.2.1 c hc), fun j j1 j2 => (b.2.2 j j1 j2).trans (a.2.2 j j1 j2)⟩
/-- all sets of m puppeteers, from s on -/
theorem qo_least14 {m : Nat} (hm : m ≤ 3) (K : Int32 → (Nat → Nat → Int32) → Option (Int32 × (Nat → Nat → Int32))) (J : Int32 → zHM → Option (Int32 × zHM)) : ∀ (d n s : Nat) (h : Nat → Nat → Int32) (w : zHM), s + d = 2 ^ pn → d < n → qi_core k P pn fn tn bn pn' fn' tn' bn' tl h w → qi_cch pn fn bn h (w.1 84) (w.1 86) → (∃ r h' w', zH_least_L15 K n (nI m) (nI s) h = some (r, h') ∧ zM_least_L14 J n (nI m) (nI s) w = some (r, w') ∧ qi_scr h w h' w' ∧ qi_cch pn fn bn h' (w.1 84) (w.1 86)) ∨ (∃ h' w', zH_least_L15 K n (nI m) (nI s) h = K (nI (m + 1)) h' ∧ zM_least_L14 J n (nI m) (nI s) w = J (nI (m + 1)) w' ∧ qi_scr h w h' w' ∧ qi_cch pn fn bn h' (w.1 84) (w.1 86))
  | 0, n + 1, s, h, w, hs, _, H, C => by
    have s1 := (qi_stg0 H.2.2.2.1).1.2.1
    obtain ⟨a0, a1, a4, a6, lpn, lfn, ltn, lbn⟩ := id H.2.1.1
    have h8 : 2 ^ pn ≤ 8 := Nat.pow_le_pow_right (n := 2) (by omega) (show pn ≤ 3 by omega)
    have eL := qa_1shl (i := pn) (by omega)
    right
    refine ⟨h, w, ?_, ?_, ⟨fun _ _ => rfl, fun _ _ => rfl, fun _ _ _ => rfl⟩, C⟩
    · simp (disch := omega) only [↓reduceIte, zH_least_L15, s1, qa_lit, qa_31, eL, qa_ltF, nI_add]
    · simp (disch := omega) only [↓reduceIte, zM_least_L14, a0, qa_lit, qa_31, eL, qa_ltF, nI_add]
  | d + 1, n + 1, s, h, w, hs, hn, H, C => by
    have s1 := (qi_stg0 H.2.2.2.1).1.2.1
    obtain ⟨a0, a1, a4, a6, lpn, lfn, ltn, lbn⟩ := id H.2.1.1
    have h8 : 2 ^ pn ≤ 8 := Nat.pow_le_pow_right (n := 2) (by omega) (show pn ≤ 3 by omega)
    have eL := qa_1shl (i := pn) (by omega)
    have eb := qj_bc s (by omega)
    have em := qm_bits (x := s) (by omega)
    have b3 := qt_bn8 s (by omega)
    by_cases hb : qs_bn s = m
    · rcases qo_isSet lpn a0 s1 (nI s) with ⟨e1, e2⟩ | ⟨e1, e2, -⟩
      · exfalso
        have : zH_isSet (nI s) h = nI 1 := by
          simp (disch := omega) only [↓reduceIte, ↓qa_b, zH_isSet, zH_everybody, s1, qa_lit, qa_31, eL, qa_sub, qa_ltF]
        rw [e1] at this
        exact absurd this (by decide)
      · obtain ⟨r, pl, h1, w1, x1, x2, x3, x4, -⟩ := qo_few H C (show s < 2 ^ pn by omega) e1 e2
        by_cases hR : r < 1000000
        · rw [if_pos hR] at x1 x2
          left
          refine ⟨nI s, h1, w1, ?_, ?_, x3, x4⟩
          · simp (disch := omega) only [↓reduceIte, ↓qa_b, zH_least_L15, s1, qa_lit, qa_31, eL, qa_ltT, eb, hb, x1, Option.bind_some, qa_neg1, qa_qN, qa_nN]
          · simp (disch := omega) only [↓reduceIte, zM_least_L14, a0, qa_lit, qa_31, eL, qa_ltT, em, hb, x2, Option.bind_some, qa_ltF]
        · rw [if_neg hR] at x1 x2
          have e84 := x3.2.1 84 (by omega)
          have e86 := x3.2.1 86 (by omega)
          have st1 : zH_least_L15 K (n + 1) (nI m) (nI s) h = zH_least_L15 K n (nI m) (nI (s + 1)) h1 := by
            simp (disch := omega) only [↓reduceIte, ↓qa_b, zH_least_L15, s1, qa_lit, qa_31, eL, qa_ltT, eb, hb, x1, Option.bind_some, qa_neg1, qa_qN, qa_NN, nI_add]
          have st2 : zM_least_L14 J (n + 1) (nI m) (nI s) w = zM_least_L14 J n (nI m) (nI (s + 1)) w1 := by
            simp (disch := omega) only [↓reduceIte, zM_least_L14, a0, qa_lit, qa_31, eL, qa_ltT, em, hb, x2, Option.bind_some, qa_Nlt0, nI_add]
          have ih := qo_least14 hm K J d n (s + 1) h1 w1 (by omega) (by omega) (qi_scr_core x3 H) (by rw [e84, e86]; exact x4)
          rw [e84, e86] at ih
          rw [st1, st2]
          rcases ih with ⟨r', h', w', y1, y2, y3, y4⟩ | ⟨h', w', y1, y2, y3, y4⟩
          · exact Or.inl ⟨r', h', w', y1, y2, x3.tr y3, y4⟩
          · exact Or.inr ⟨h', w', y1, y2, x3.tr y3, y4⟩
    · have st1 : zH_least_L15 K (n + 1) (nI m) (nI s) h = zH_least_L15 K n (nI m) (nI (s + 1)) h := by
        simp (disch := omega) only [↓reduceIte, ↓qa_b, zH_least_L15, s1, qa_lit, qa_31, eL, qa_ltT, eb, qa_eqF, nI_add]
      have st2 : zM_least_L14 J (n + 1) (nI m) (nI s) w = zM_least_L14 J n (nI m) (nI (s + 1)) w := by
        simp (disch := omega) only [↓reduceIte, zM_least_L14, a0, qa_lit, qa_31, eL, qa_ltT, em, Option.bind_some, qa_eqF, nI_add]
      rw [st1, st2]
      exact qo_least14 hm K J d n (s + 1) h w (by omega) (by omega) H C
theorem qo_least2 : ∀ (d n m : Nat) (h : Nat → Nat → Int32) (w : zHM), m + d = pn + 1 → d < n → qi_core k P pn fn tn bn pn' fn' tn' bn' tl h w → qi_cch pn fn bn h (w.1 84) (w.1 86) → ∃ r h' w', zH_least_L2 n (nI m) h = some (r, h') ∧ zM_least_L2 n (nI m) w = some (r, w') ∧ qi_scr h w h' w' ∧ qi_cch pn fn bn h' (w.1 84) (w.1 86)
  | 0, n + 1, m, h, w, hm, _, H, C => by
    have s1 := (qi_stg0 H.2.2.2.1).1.2.1
    obtain ⟨a0, a1, a4, a6, lpn, lfn, ltn, lbn⟩ := id H.2.1.1
    refine ⟨qN, h, w, ?_, ?_, ⟨fun _ _ => rfl, fun _ _ => rfl, fun _ _ _ => rfl⟩, C⟩
    · simp (disch := omega) only [↓reduceIte, zH_least_L2, s1, qa_ltT, qa_lit, qa_neg1]
    · simp (disch := omega) only [↓reduceIte, zM_least_L2, a0, qa_ltT, qa_lit, qa_neg1]
  | d + 1, n + 1, m, h, w, hm, hn, H, C => by
    have s1 := (qi_stg0 H.2.2.2.1).1.2.1
    obtain ⟨a0, a1, a4, a6, lpn, lfn, ltn, lbn⟩ := id H.2.1.1
    have h8 : 2 ^ pn ≤ 8 := Nat.pow_le_pow_right (n := 2) (by omega) (show pn ≤ 3 by omega)
    have st1 : zH_least_L2 (n + 1) (nI m) h = zH_least_L15 (fun v1 h => zH_least_L2 n v1 h) am_N (nI m) (nI 0) h := by
      simp (disch := omega) only [↓reduceIte, zH_least_L2, s1, qa_ltF, qa_lit]
    have st2 : zM_least_L2 (n + 1) (nI m) w = zM_least_L14 (fun v1 w => zM_least_L2 n v1 w) am_N (nI m) (nI 0) w := by
      simp (disch := omega) only [↓reduceIte, zM_least_L2, a0, qa_ltF, qa_lit]
    rw [st1, st2]
    rcases qo_least14 (k := k) (P := P) (pn := pn) (fn := fn) (tn := tn) (bn := bn) (pn' := pn') (fn' := fn') (tn' := tn') (bn' := bn') (tl := tl) (m := m) (by omega) (fun v1 h => zH_least_L2 n v1 h) (fun v1 w => zM_least_L2 n v1 w) (2 ^ pn) am_N 0 h w (by omega) (Nat.lt_of_le_of_lt h8 (by decide)) H C with ⟨r', h', w', y1, y2, y3, y4⟩ | ⟨h1, w1, y1, y2, y3, y4⟩
    · exact ⟨r', h', w', y1, y2, y3, y4⟩
    · have e84 := y3.2.1 84 (by omega)
      have e86 := y3.2.1 86 (by omega)
      obtain ⟨r', h', w', z1, z2, z3, z4⟩ := qo_least2 d n (m + 1) h1 w1 (by omega) (by omega) (qi_scr_core y3 H) (by rw [e84, e86]; exact y4)
      rw [e84, e86] at z4
      exact ⟨r', h', w', y1.trans z1, y2.trans z2, y3.tr z3, z4⟩
theorem qo_least (H : qi_core k P pn fn tn bn pn' fn' tn' bn' tl h w) (C : qi_cch pn fn bn h (w.1 84) (w.1 86)) : ∃ r h' w', zH_least h = some (r, h') ∧ zM_least w = some (r, w') ∧ qi_scr h w h' w' ∧ qi_cch pn fn bn h' (w.1 84) (w.1 86) :=
  qo_least2 (pn + 1) am_N 0 h w (by omega) (Nat.lt_of_le_of_lt (show pn + 1 ≤ 4 by have := H.2.1.1.2.2.2.2.1; omega) (by decide)) H C
end
