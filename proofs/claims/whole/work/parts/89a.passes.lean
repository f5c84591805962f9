/-! THE HEART: search: the reference's table of passes -/
def qp_g (w u : zHM) : Prop := ∀ c, c ≠ 89 → c ≠ 91 → c ≠ 97 → u.1 c = w.1 c
theorem qp_g.tr {w u v : zHM} (h1 : qp_g w u) (h2 : qp_g u v) : qp_g w v := fun c a b d => (h2 c a b d).trans (h1 c a b d)
def qp_v (a tx : Nat → Int32) (t f p q : Nat) : Bool := qs_on a t f && qs_law a tx 1 t f p q
def qp_j (a tx : Nat → Int32) (t j : Nat) : Bool := qp_v a tx t (j / 9) (j % 9 / 3) (j % 3)
theorem qp_lo : ∀ p, p < 3 → qs_lo (2 ^ (2 * p)) / 2 = p ∧ 2 ^ (2 * p) < 64 ∧ 0 < 2 ^ (2 * p) := by decide +kernel
section
variable {L P pn fn tn bn : Nat} {w : zHM}
theorem qp_q (HA : qi_a L P pn fn tn bn (w.1 84)) (hP : P ≤ 8) (hask : qk_askM w) {t f p : Nat} (ht : t < bn) (hf : f < fn) (hp : p < 3) (K : Int32 → Int32 → Int32 → zHM → Option zHM) : ∀ (k n q : Nat) (u : zHM), q + k = 3 → k < n → qp_g w u → (∀ j, j < 9 * f + 3 * p + q → u.1 97 j = qs_b (qp_j (w.1 84) (w.1 86) t j)) → ∃ u', zM_findPasses_L22 K n (nI t) (nI f) (nI p) (nI q) u = K (nI t) (nI f) (nI (p + 1)) u' ∧ qp_g w u' ∧ ∀ j, j < 9 * f + 3 * (p + 1) → u'.1 97 j = qs_b (qp_j (w.1 84) (w.1 86) t j)
  | 0, n + 1, q, u, hq, _, hg, hj => by
    refine ⟨u, ?_, hg, fun j h => hj j (by omega)⟩
    have : q = 3 := by omega
    subst this
    simp (disch := omega) only [↓reduceIte, zM_findPasses_L22, qa_ltF, qa_lit, nI_add]
  | k + 1, n + 1, q, u, hq, hn, hg, hj => by
    obtain ⟨a0, a1, a4, a6, lpn, lfn, ltn, lbn⟩ := id HA.1
    have g84 := hg 84 (by omega) (by omega) (by omega)
    have g86 := hg 86 (by omega) (by omega) (by omega)
    have hval : qp_j (w.1 84) (w.1 86) t (9 * f + 3 * p + q) = qp_v (w.1 84) (w.1 86) t f p q := by
      unfold qp_j
      rw [show (9 * f + 3 * p + q) / 9 = f by omega, show (9 * f + 3 * p + q) % 9 / 3 = p by omega, show (9 * f + 3 * p + q) % 3 = q by omega]
    have ep := qm_placeOf (w := u) (t := t) (f := f) (by omega) (by omega)
    rw [g84] at ep
    have fin : ∀ v : zHM, qp_g u v → (∀ j, v.1 97 j = u.1 97 j) → ∃ u', zM_findPasses_L22 K n (nI t) (nI f) (nI p) (nI (q + 1)) (va_up v.1 97 (upd (v.1 97) (9 * f + 3 * p + q) (qs_b (qp_v (w.1 84) (w.1 86) t f p q))), v.2) = K (nI t) (nI f) (nI (p + 1)) u' ∧ qp_g w u' ∧ ∀ j, j < 9 * f + 3 * (p + 1) → u'.1 97 j = qs_b (qp_j (w.1 84) (w.1 86) t j) := fun v hv h97 =>
      qp_q HA hP hask ht hf hp K k n (q + 1) _ (by omega) (by omega) (fun c a b d => by
        have := (hg.tr hv) c a b d
        simp (disch := omega) only [↓reduceIte, ↓qa_b, qa_b, qa_lit, qa_neg1, qa_qN, nI_add, pk_mul, qa_ix, qa_cl, qa_ltT, qa_ltF, qa_eqT, qa_eqF, qa_nN, qa_Nn, qa_ltN, qa_Nlt, qa_NN, qa_ltNN, qa_sub, qa_dec, qa_dec0, qa_sub0, qa_incN, qa_31, qa_shr, qa_shl, qa_and1, va_up_self, qa_une, pk_us, pk_un, qa_up2, qa_upd2, Option.bind_some, if_true, if_false, and_true, true_and, and_self, qa_f1, qa_f2]
        exact this) (fun j h => by
        by_cases hjj : j = 9 * f + 3 * p + q
        · subst hjj
          rw [hval]
          simp (disch := omega) only [↓reduceIte, ↓qa_b, qa_b, qa_lit, qa_neg1, qa_qN, nI_add, pk_mul, qa_ix, qa_cl, qa_ltT, qa_ltF, qa_eqT, qa_eqF, qa_nN, qa_Nn, qa_ltN, qa_Nlt, qa_NN, qa_ltNN, qa_sub, qa_dec, qa_dec0, qa_sub0, qa_incN, qa_31, qa_shr, qa_shl, qa_and1, va_up_self, qa_une, pk_us, pk_un, qa_up2, qa_upd2, Option.bind_some, if_true, if_false, and_true, true_and, and_self, qa_f1, qa_f2]
        · have := hj j (by omega)
          rw [← h97 j] at this
          simp (disch := omega) only [↓reduceIte, ↓qa_b, qa_b, qa_lit, qa_neg1, qa_qN, nI_add, pk_mul, qa_ix, qa_cl, qa_ltT, qa_ltF, qa_eqT, qa_eqF, qa_nN, qa_Nn, qa_ltN, qa_Nlt, qa_NN, qa_ltNN, qa_sub, qa_dec, qa_dec0, qa_sub0, qa_incN, qa_31, qa_shr, qa_shl, qa_and1, va_up_self, qa_une, pk_us, pk_un, qa_up2, qa_upd2, Option.bind_some, if_true, if_false, and_true, true_and, and_self, qa_f1, qa_f2]
          exact this)
    rcases qi_pl HA hP ht hf with ⟨ho, hpl⟩ | ⟨ho, y, hy, hpl⟩
    · have z : qp_v (w.1 84) (w.1 86) t f p q = false := by unfold qp_v; rw [ho, Bool.false_and]
      obtain ⟨u', r1, r2⟩ := fin u (fun _ _ _ _ => rfl) (fun _ => rfl)
      refine ⟨u', ?_, r2⟩
      rw [← r1, z]
      rw [hpl] at ep
      simp (disch := omega) only [↓reduceIte, ↓qa_b, zM_findPasses_L22, qa_ltT, qa_lit, ep, Option.bind_some, qa_Nlt0, pk_mul, nI_add, qa_ix, qa_cl, qs_b, Bool.false_eq_true]
    · obtain ⟨x1, x2, x3⟩ := qp_lo p hp
      obtain ⟨y1, y2, y3⟩ := qp_lo q (by omega)
      obtain ⟨v, em, sv⟩ := qm_mayPass (w := u) (by rw [g84]; exact HA) hP (by
        unfold qk_askM at hask ⊢
        rw [g84, g86]
        exact hask) ht hf (by rw [g84]; exact ho) x2 x3 y2 y3
      rw [g84, g86, x1, y1] at em
      have z : qp_v (w.1 84) (w.1 86) t f p q = qs_law (w.1 84) (w.1 86) 1 t f p q := by unfold qp_v; rw [ho, Bool.true_and]
      obtain ⟨u', r1, r2⟩ := fin v (fun c a b _ => sv c a b) (fun j => congrFun (sv 97 (by omega) (by omega)) j)
      refine ⟨u', ?_, r2⟩
      rw [← r1, z]
      rw [hpl] at ep
      have s1 := qa_1shl (i := 2 * p) (by omega)
      have s2 := qa_1shl (i := 2 * q) (by omega)
      cases hl : qs_law (w.1 84) (w.1 86) 1 t f p q
      · rw [hl] at em
        simp (disch := omega) only [↓reduceIte, ↓qa_b, zM_findPasses_L22, qa_ltT, qa_ltF, qa_lit, ep, Option.bind_some, pk_mul, nI_add, qa_ix, qa_cl, qa_31, s1, s2, em, qs_b, Bool.false_eq_true]
      · rw [hl] at em
        simp (disch := omega) only [↓reduceIte, ↓qa_b, zM_findPasses_L22, qa_ltT, qa_ltF, qa_lit, ep, Option.bind_some, pk_mul, nI_add, qa_ix, qa_cl, qa_31, s1, s2, em, qs_b, qa_eqF]
end
