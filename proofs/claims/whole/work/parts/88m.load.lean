/-! THE HEART: search: the class loads the play, whole -/
section
variable {pn fn bn st sk : Nat} {kd : Nat → Nat}
theorem qd_figs (lfn : fn ≤ 6) (lbn : bn ≤ 24) (hst : st < 8) (hsk : sk < 64) (hkd : ∀ g, g < fn → kd g < 3) : ∀ (k n f : Nat) (h : Nat → Nat → Int32), f + k = fn → k < n → h 65 1 = nI bn → h 65 2 = nI fn → (∀ g, g < fn → h 4 g = nI (kd g)) → ∃ h', zS_load_L68 n (nI st) (nI sk) (nI f) h = some h' ∧ (∀ c, c ≠ 66 → c ≠ 68 → c ≠ 69 → c ≠ 70 → h' c = h c) ∧ (∀ g, f ≤ g → g < fn → h' 66 g = nI (kd g) ∧ ∀ t, t < bn → qd_c h h' sk t g (nI (qs_mk (kd g) st))) ∧ ∀ g, g < f → h' 66 g = h 66 g ∧ ∀ t, h' 68 (t * 6 + g) = h 68 (t * 6 + g) ∧ h' 69 (t * 6 + g) = h 69 (t * 6 + g) ∧ h' 70 (t * 6 + g) = h 70 (t * 6 + g)
  | 0, n + 1, f, h, hf, _, e1, e2, e4 => by
    refine ⟨h, ?_, fun _ _ _ _ _ => rfl, fun g a b => by omega, fun _ _ => ⟨rfl, fun _ => ⟨rfl, rfl, rfl⟩⟩⟩
    have : f = fn := by omega
    subst this
    simp (disch := omega) only [↓reduceIte, zS_load_L68, e2, qa_ltF]
  | k + 1, n + 1, f, h, hf, hn, e1, e2, e4 => by
    generalize hv : va_up h 66 (upd (h 66) f (nI (kd f))) = v
    have v0 : ∀ c, c ≠ 66 → v c = h c := fun c a => by
      subst hv
      simp (disch := omega) only [↓reduceIte, ↓qa_b, qa_b, qa_lit, qa_neg1, qa_qN, nI_add, pk_mul, qa_ix, qa_cl, qa_ltT, qa_ltF, qa_eqT, qa_eqF, qa_nN, qa_Nn, qa_ltN, qa_Nlt, qa_NN, qa_ltNN, qa_sub, qa_dec, qa_dec0, qa_sub0, qa_incN, qa_31, qa_shr, qa_shl, qa_and1, va_up_self, qa_une, pk_us, pk_un, qa_up2, qa_upd2, Option.bind_some, if_true, if_false, and_true, true_and, and_self, qa_f1, qa_f2]
    have v1 : v 66 = upd (h 66) f (nI (kd f)) := by
      subst hv
      simp (disch := omega) only [↓reduceIte, ↓qa_b, qa_b, qa_lit, qa_neg1, qa_qN, nI_add, pk_mul, qa_ix, qa_cl, qa_ltT, qa_ltF, qa_eqT, qa_eqF, qa_nN, qa_Nn, qa_ltN, qa_Nlt, qa_NN, qa_ltNN, qa_sub, qa_dec, qa_dec0, qa_sub0, qa_incN, qa_31, qa_shr, qa_shl, qa_and1, va_up_self, qa_une, pk_us, pk_un, qa_up2, qa_upd2, Option.bind_some, if_true, if_false, and_true, true_and, and_self, qa_f1, qa_f2]
    obtain ⟨u, p1, p2, p3, p4⟩ := qd_beats (bn := bn) (st := st) lbn hsk (show f < 6 by omega) (nI (qs_mk (kd f) st)) (fun v3 v4 v5 h => zS_load_L68 n v3 v4 v5 h) bn am_N 0 v (by omega) (Nat.lt_of_le_of_lt lbn (by decide)) (by rw [v0 65 (by omega)]; exact e1)
    have u0 : ∀ c, c ≠ 66 → c ≠ 68 → c ≠ 69 → c ≠ 70 → u c = h c := fun c a b d e => by rw [p2 c b d e, v0 c a]
    obtain ⟨h', q1, q2, q3, q4⟩ := qd_figs lfn lbn hst hsk hkd k n (f + 1) u (by omega) (by omega) (by rw [u0 65 (by omega) (by omega) (by omega) (by omega)]; exact e1) (by rw [u0 65 (by omega) (by omega) (by omega) (by omega)]; exact e2) (fun g hg => by rw [u0 4 (by omega) (by omega) (by omega) (by omega)]; exact e4 g hg)
    have ek := e4 f (by omega)
    have em := qh_holdsOf (hkd f (by omega)) hst
    refine ⟨h', ?_, fun c a b d e => by rw [q2 c a b d e, u0 c a b d e], fun g a b => ?_, fun g hg => ?_⟩
    · rw [← q1]
      refine Eq.trans ?_ p1
      subst hv
      simp (disch := omega) only [↓reduceIte, ↓qa_b, zS_load_L68, e2, qa_ltT, qa_lit, qa_ix, qa_cl, ek, va_up_self, pk_us, em, Option.bind_some]
    · by_cases hgf : g = f
      · subst hgf
        obtain ⟨r1, r2⟩ := q4 g (by omega)
        refine ⟨?_, fun t ht => ?_⟩
        · rw [r1, p2 66 (by omega) (by omega) (by omega), v1]
          simp (disch := omega) only [↓reduceIte, ↓qa_b, qa_b, qa_lit, qa_neg1, qa_qN, nI_add, pk_mul, qa_ix, qa_cl, qa_ltT, qa_ltF, qa_eqT, qa_eqF, qa_nN, qa_Nn, qa_ltN, qa_Nlt, qa_NN, qa_ltNN, qa_sub, qa_dec, qa_dec0, qa_sub0, qa_incN, qa_31, qa_shr, qa_shl, qa_and1, va_up_self, qa_une, pk_us, pk_un, qa_up2, qa_upd2, Option.bind_some, if_true, if_false, and_true, true_and, and_self, qa_f1, qa_f2]
        · obtain ⟨s1, s2, s3⟩ := r2 t
          have := p3 t (by omega) ht
          unfold qd_c at this ⊢
          rw [s1, s2, s3]
          rw [v0 8 (by omega), v0 63 (by omega), v0 64 (by omega)] at this
          exact this
      · obtain ⟨r1, r2⟩ := q3 g (by omega) b
        refine ⟨r1, fun t ht => ?_⟩
        have := r2 t ht
        unfold qd_c at this ⊢
        rw [u0 8 (by omega) (by omega) (by omega) (by omega), u0 63 (by omega) (by omega) (by omega) (by omega), u0 64 (by omega) (by omega) (by omega) (by omega)] at this
        exact this
    · obtain ⟨r1, r2⟩ := q4 g (by omega)
      refine ⟨?_, fun t => ?_⟩
      · rw [r1, p2 66 (by omega) (by omega) (by omega), v1]
        simp (disch := omega) only [↓reduceIte, ↓qa_b, qa_b, qa_lit, qa_neg1, qa_qN, nI_add, pk_mul, qa_ix, qa_cl, qa_ltT, qa_ltF, qa_eqT, qa_eqF, qa_nN, qa_Nn, qa_ltN, qa_Nlt, qa_NN, qa_ltNN, qa_sub, qa_dec, qa_dec0, qa_sub0, qa_incN, qa_31, qa_shr, qa_shl, qa_and1, va_up_self, qa_une, pk_us, pk_un, qa_up2, qa_upd2, Option.bind_some, if_true, if_false, and_true, true_and, and_self, qa_f1, qa_f2]
      · obtain ⟨s1, s2, s3⟩ := r2 t
        obtain ⟨z1, z2, z3⟩ := p4 t g (by omega) (Or.inl (by omega))
        rw [s1, s2, s3, z1, z2, z3, v0 68 (by omega), v0 69 (by omega), v0 70 (by omega)]
        exact ⟨rfl, rfl, rfl⟩
variable {hmo : Nat → Nat}
theorem qd_hands (lpn : pn ≤ 3) : ∀ (k n i : Nat) (h : Nat → Nat → Int32), i + k = 2 * pn → k < n → h 1 1 = nI pn → (∀ p, p < pn → h 2 p = nI (hmo p) ∧ hmo p < 8) → ∃ h', zS_load_L37 n (nI st) (nI sk) (nI i) h = zS_load_L68 am_N (nI st) (nI sk) (nI 0) h' ∧ (∀ c, c ≠ 67 → h' c = h c) ∧ (∀ j, i ≤ j → j < 2 * pn → h' 67 j = nI (qs_or hmo pn j)) ∧ ∀ j, j < i → h' 67 j = h 67 j
  | 0, n + 1, i, h, hi, _, e1, e2 => by
    refine ⟨h, ?_, fun _ _ => rfl, fun j a b => by omega, fun _ _ => rfl⟩
    simp (disch := omega) only [↓reduceIte, ↓qa_b, zS_load_L37, zG_hands, e1, qa_lit, pk_mul, qa_ltF]
  | k + 1, n + 1, i, h, hi, hn, e1, e2 => by
    obtain ⟨h', q1, q2, q3, q4⟩ := qd_hands lpn k n (i + 1) (va_up h 67 (upd (h 67) i (nI (qs_or hmo pn i)))) (by omega) (by omega) (by
      simp (disch := omega) only [↓reduceIte, ↓qa_b, qa_b, qa_lit, qa_neg1, qa_qN, nI_add, pk_mul, qa_ix, qa_cl, qa_ltT, qa_ltF, qa_eqT, qa_eqF, qa_nN, qa_Nn, qa_ltN, qa_Nlt, qa_NN, qa_ltNN, qa_sub, qa_dec, qa_dec0, qa_sub0, qa_incN, qa_31, qa_shr, qa_shl, qa_and1, va_up_self, qa_une, pk_us, pk_un, qa_up2, qa_upd2, Option.bind_some, if_true, if_false, and_true, true_and, and_self, qa_f1, qa_f2]
      exact e1) (fun p hp => by
      have := e2 p hp
      simp (disch := omega) only [↓reduceIte, ↓qa_b, qa_b, qa_lit, qa_neg1, qa_qN, nI_add, pk_mul, qa_ix, qa_cl, qa_ltT, qa_ltF, qa_eqT, qa_eqF, qa_nN, qa_Nn, qa_ltN, qa_Nlt, qa_NN, qa_ltNN, qa_sub, qa_dec, qa_dec0, qa_sub0, qa_incN, qa_31, qa_shr, qa_shl, qa_and1, va_up_self, qa_une, pk_us, pk_un, qa_up2, qa_upd2, Option.bind_some, if_true, if_false, and_true, true_and, and_self, qa_f1, qa_f2]
      exact this)
    have eo := qs_order lpn e1 e2 (show i < 2 * pn by omega)
    refine ⟨h', ?_, fun c hc => ?_, fun j a b => ?_, fun j hj => ?_⟩
    · rw [← q1]
      simp (disch := omega) only [↓reduceIte, ↓qa_b, zS_load_L37, zG_hands, e1, qa_lit, pk_mul, qa_ltT, eo, Option.bind_some, qa_ix, qa_cl, nI_add]
    · rw [q2 c hc]
      simp (disch := omega) only [↓reduceIte, ↓qa_b, qa_b, qa_lit, qa_neg1, qa_qN, nI_add, pk_mul, qa_ix, qa_cl, qa_ltT, qa_ltF, qa_eqT, qa_eqF, qa_nN, qa_Nn, qa_ltN, qa_Nlt, qa_NN, qa_ltNN, qa_sub, qa_dec, qa_dec0, qa_sub0, qa_incN, qa_31, qa_shr, qa_shl, qa_and1, va_up_self, qa_une, pk_us, pk_un, qa_up2, qa_upd2, Option.bind_some, if_true, if_false, and_true, true_and, and_self, qa_f1, qa_f2]
    · by_cases hj : j = i
      · subst hj
        rw [q4 j (by omega)]
        simp (disch := omega) only [↓reduceIte, ↓qa_b, qa_b, qa_lit, qa_neg1, qa_qN, nI_add, pk_mul, qa_ix, qa_cl, qa_ltT, qa_ltF, qa_eqT, qa_eqF, qa_nN, qa_Nn, qa_ltN, qa_Nlt, qa_NN, qa_ltNN, qa_sub, qa_dec, qa_dec0, qa_sub0, qa_incN, qa_31, qa_shr, qa_shl, qa_and1, va_up_self, qa_une, pk_us, pk_un, qa_up2, qa_upd2, Option.bind_some, if_true, if_false, and_true, true_and, and_self, qa_f1, qa_f2]
      · exact q3 j (by omega) b
    · rw [q4 j (by omega)]
      simp (disch := omega) only [↓reduceIte, ↓qa_b, qa_b, qa_lit, qa_neg1, qa_qN, nI_add, pk_mul, qa_ix, qa_cl, qa_ltT, qa_ltF, qa_eqT, qa_eqF, qa_nN, qa_Nn, qa_ltN, qa_Nlt, qa_NN, qa_ltNN, qa_sub, qa_dec, qa_dec0, qa_sub0, qa_incN, qa_31, qa_shr, qa_shl, qa_and1, va_up_self, qa_une, pk_us, pk_un, qa_up2, qa_upd2, Option.bind_some, if_true, if_false, and_true, true_and, and_self, qa_f1, qa_f2]
theorem qd_load {h : Nat → Nat → Int32} (lpn : pn ≤ 3) (lfn : fn ≤ 6) (lbn : bn ≤ 24) (hst : st < 8) (hsk : sk < 64) (hkd : ∀ g, g < fn → kd g < 3) (e1 : h 1 1 = nI pn) (e2 : ∀ p, p < pn → h 2 p = nI (hmo p) ∧ hmo p < 8) (e4 : h 1 4 = nI fn) (e13 : h 1 13 = nI bn) (ek : ∀ g, g < fn → h 4 g = nI (kd g)) :
    ∃ h', zS_load (nI st) (nI sk) h = some h' ∧ (∀ c, c < 65 ∨ 70 < c → h' c = h c) ∧ (h' 65 0 = h 65 0 ∧ h' 65 1 = nI bn ∧ h' 65 2 = nI fn ∧ h' 65 3 = nI (2 * qs_bn st) ∧ h' 65 4 = h 1 9) ∧ (∀ j, j < 2 * pn → h' 67 j = nI (qs_or hmo pn j)) ∧ ∀ g, g < fn → h' 66 g = nI (kd g) ∧ ∀ t, t < bn → qd_c h h' sk t g (nI (qs_mk (kd g) st)) := by
  have b3 := qt_bn8 st hst
  generalize hv : va_up h 65 (upd (upd (upd (upd (h 65) 1 (nI bn)) 2 (nI fn)) 3 (nI (2 * qs_bn st))) 4 (h 1 9)) = v
  have v0 : ∀ c, c ≠ 65 → v c = h c := fun c a => by
    subst hv
    simp (disch := omega) only [↓reduceIte, ↓qa_b, qa_b, qa_lit, qa_neg1, qa_qN, nI_add, pk_mul, qa_ix, qa_cl, qa_ltT, qa_ltF, qa_eqT, qa_eqF, qa_nN, qa_Nn, qa_ltN, qa_Nlt, qa_NN, qa_ltNN, qa_sub, qa_dec, qa_dec0, qa_sub0, qa_incN, qa_31, qa_shr, qa_shl, qa_and1, va_up_self, qa_une, pk_us, pk_un, qa_up2, qa_upd2, Option.bind_some, if_true, if_false, and_true, true_and, and_self, qa_f1, qa_f2]
  have v1 : v 65 0 = h 65 0 ∧ v 65 1 = nI bn ∧ v 65 2 = nI fn ∧ v 65 3 = nI (2 * qs_bn st) ∧ v 65 4 = h 1 9 := by
    subst hv
    simp (disch := omega) only [↓reduceIte, ↓qa_b, qa_b, qa_lit, qa_neg1, qa_qN, nI_add, pk_mul, qa_ix, qa_cl, qa_ltT, qa_ltF, qa_eqT, qa_eqF, qa_nN, qa_Nn, qa_ltN, qa_Nlt, qa_NN, qa_ltNN, qa_sub, qa_dec, qa_dec0, qa_sub0, qa_incN, qa_31, qa_shr, qa_shl, qa_and1, va_up_self, qa_une, pk_us, pk_un, qa_up2, qa_upd2, Option.bind_some, if_true, if_false, and_true, true_and, and_self, qa_f1, qa_f2]
  obtain ⟨u, p1, p2, p3, -⟩ := qd_hands (st := st) (sk := sk) (hmo := hmo) lpn (2 * pn) am_N 0 v (by omega) (Nat.lt_of_le_of_lt (show 2 * pn ≤ 6 by omega) (by decide)) (by rw [v0 1 (by omega)]; exact e1) (fun p hp => by rw [v0 2 (by omega)]; exact e2 p hp)
  obtain ⟨h', q1, q2, q3, -⟩ := qd_figs lfn lbn hst hsk hkd fn am_N 0 u (by omega) (Nat.lt_of_le_of_lt lfn (by decide)) (by rw [p2 65 (by omega)]; exact v1.2.1) (by rw [p2 65 (by omega)]; exact v1.2.2.1) (fun g hg => by rw [p2 4 (by omega), v0 4 (by omega)]; exact ek g hg)
  have eb := qj_bc st (by omega)
  refine ⟨h', ?_, fun c hc => by rw [q2 c (by omega) (by omega) (by omega) (by omega), p2 c (by omega), v0 c (by omega)], ?_, fun j hj => ?_, fun g hg => ?_⟩
  · rw [← q1, ← p1]
    subst hv
    simp (disch := omega) only [↓reduceIte, ↓qa_b, zS_load, e13, e4, eb, qa_lit, pk_mul, qa_une, va_up_self, qa_up2]
  · rw [q2 65 (by omega) (by omega) (by omega) (by omega), p2 65 (by omega)]
    exact v1
  · rw [q2 67 (by omega) (by omega) (by omega) (by omega)]
    exact p3 j (by omega) hj
  · obtain ⟨r1, r2⟩ := q3 g (by omega) hg
    refine ⟨r1, fun t ht => ?_⟩
    have := r2 t ht
    unfold qd_c at this ⊢
    rw [p2 8 (by omega), p2 63 (by omega), p2 64 (by omega), v0 8 (by omega), v0 63 (by omega), v0 64 (by omega)] at this
    exact this
end
