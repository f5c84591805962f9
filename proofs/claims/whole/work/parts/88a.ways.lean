/-! THE HEART: search: the ways of a beat, and the reference's list of them -/
def qw_u (c : Nat → Nat) (f k : Nat) : Nat → Nat := fun g => if g = f then k else c g
def qw_l {α : Type} (g : Nat → List α) : Nat → Nat → List α
  | 0, _ => []
  | m + 1, k => g k ++ qw_l g m (k + 1)
/-- all that begin with c at the figures ahead of f; r figures are left -/
def qw (on : Nat → Bool) (ok : Nat → Nat → (Nat → Nat) → Bool) : Nat → Nat → (Nat → Nat) → List (Nat → Nat)
  | 0, _, c => [c]
  | r + 1, f, c => if on f then qw_l (fun k => if ok f k c then qw on ok r (f + 1) (qw_u c f k) else []) 6 0 else qw on ok r (f + 1) c
/-- the hands of a figure; of all ahead of f -/
def qw_s (on : Nat → Bool) (hm : Nat → Nat → Nat) (c : Nat → Nat) (g : Nat) : Nat := if on g then hm g (c g) else 0
def qw_b (on : Nat → Bool) (hm : Nat → Nat → Nat) (c : Nat → Nat) : Nat → Nat
  | 0 => 0
  | f + 1 => qw_b on hm c f ||| qw_s on hm c f
theorem qw_b_u {on : Nat → Bool} {hm : Nat → Nat → Nat} {c : Nat → Nat} {f k : Nat} : ∀ g, g ≤ f → qw_b on hm (qw_u c f k) g = qw_b on hm c g
  | 0, _ => rfl
  | g + 1, hg => by
    unfold qw_b
    rw [qw_b_u g (by omega), show qw_s on hm (qw_u c f k) g = qw_s on hm c g by unfold qw_s qw_u; rw [if_neg (show g ≠ f by omega)]]
theorem qw_s_u {on : Nat → Bool} {hm : Nat → Nat → Nat} {c : Nat → Nat} {f k g : Nat} (hg : g ≠ f) : qw_s on hm (qw_u c f k) g = qw_s on hm c g := by unfold qw_s qw_u; rw [if_neg hg]
theorem qw_s_uu {on : Nat → Bool} {hm : Nat → Nat → Nat} {c : Nat → Nat} {f k : Nat} (ho : on f = true) : qw_s on hm (qw_u c f k) f = hm f k := by unfold qw_s qw_u; rw [if_pos rfl, if_pos ho]
theorem qw_s_lt {on : Nat → Bool} {hm : Nat → Nat → Nat} (hm64 : ∀ f k, hm f k < 64) (c : Nat → Nat) (g : Nat) : qw_s on hm c g < 64 := by
  unfold qw_s
  split
  · exact hm64 _ _
  · omega
theorem qw_b_lt {on : Nat → Bool} {hm : Nat → Nat → Nat} (hm64 : ∀ f k, hm f k < 64) (c : Nat → Nat) : ∀ f, qw_b on hm c f < 64
  | 0 => by unfold qw_b; omega
  | f + 1 => Nat.or_lt_two_pow (n := 6) (qw_b_lt hm64 c f) (qw_s_lt hm64 c f)
/-- the place ahead -/
def qr_d (f : Nat) : Int32 := if f = 0 then qN else nI (f - 1)
theorem qr_d1 (f : Nat) : qr_d (f + 1) = nI f := rfl
theorem qr_dA (f : Nat) : nI f + qN = qr_d f := by
  unfold qr_d
  split
  · next h => rw [h]; exact qa_dec0
  · next h => exact qa_dec (by omega)
theorem qr_dS (f : Nat) : nI f - nI 1 = qr_d f := by
  unfold qr_d
  split
  · next h => rw [h]; exact qa_sub0
  · next h => exact qa_sub (by omega)
/-- what the search of ways leaves as it was -/
def qr_g (w u : zHM) : Prop := ∀ c, c ≠ 89 → c ≠ 91 → c ≠ 92 → c ≠ 93 → c ≠ 95 → c ≠ 96 → u.1 c = w.1 c
theorem qr_g.rf (w : zHM) : qr_g w w := fun _ _ _ _ _ _ _ => rfl
theorem qr_g.tr {w u v : zHM} (h1 : qr_g w u) (h2 : qr_g u v) : qr_g w v := fun c a b d e f g => (h2 c a b d e f g).trans (h1 c a b d e f g)
/-- the ways that lie at beat t -/
def qr_rows (on : Nat → Bool) (hm : Nat → Nat → Nat) (t : Nat) (u : zHM) (l : List (Nat → Nat)) : Prop := u.1 93 t = nI l.length ∧ ∀ i c, l[i]? = some c → ∀ g, g < 6 → u.1 92 (6 * (720 * t + i) + g) = nI (qw_s on hm c g)
/-- and those of other beats -/
def qr_oth (t : Nat) (u v : zHM) : Prop := (∀ j, j ≠ t → v.1 93 j = u.1 93 j) ∧ ∀ j, j < 4320 * t ∨ 4320 * t + 4320 ≤ j → v.1 92 j = u.1 92 j
theorem qr_oth.rf (t : Nat) (w : zHM) : qr_oth t w w := ⟨fun _ _ => rfl, fun _ _ => rfl⟩
theorem qr_oth.tr {t : Nat} {w u v : zHM} (h1 : qr_oth t w u) (h2 : qr_oth t u v) : qr_oth t w v := ⟨fun j hj => (h2.1 j hj).trans (h1.1 j hj), fun j hj => (h2.2 j hj).trans (h1.2 j hj)⟩
theorem qr_s {w u : zHM} (t : Nat) (e : qf_s w u) : qr_g w u ∧ qr_oth t w u ∧ u.1 92 = w.1 92 ∧ u.1 93 = w.1 93 ∧ u.1 95 = w.1 95 ∧ u.1 96 = w.1 96 :=
  ⟨fun c a b _ _ _ _ => e c a b, ⟨fun j _ => congrFun (e 93 (by omega) (by omega)) j, fun j _ => congrFun (e 92 (by omega) (by omega)) j⟩, e 92 (by omega) (by omega), e 93 (by omega) (by omega), e 95 (by omega) (by omega), e 96 (by omega) (by omega)⟩
section
variable {on : Nat → Bool} {hm : Nat → Nat → Nat}
/-- a way is laid -/
theorem qr_layL {t m : Nat} (ht : t < 24) (hm7 : m < 720) (c : Nat → Nat) : ∀ (k n g : Nat) (u : zHM), g + k = 6 → k < n → (∀ j, j < 6 → u.1 96 j = nI (qw_s on hm c j)) → u.1 93 t = nI m → (∀ j, j < g → u.1 92 (6 * (720 * t + m) + j) = nI (qw_s on hm c j)) →
    ∃ u', zM_layWay_L18 n (nI t) (nI (6 * (720 * t + m))) (nI g) u = some u' ∧ (∀ c, c ≠ 92 → c ≠ 93 → u'.1 c = u.1 c) ∧ u'.1 93 = upd (u.1 93) t (nI (m + 1)) ∧ (∀ j, j < 6 → u'.1 92 (6 * (720 * t + m) + j) = nI (qw_s on hm c j)) ∧ ∀ j, j < 6 * (720 * t + m) ∨ 6 * (720 * t + m) + 6 ≤ j → u'.1 92 j = u.1 92 j
  | 0, n + 1, g, u, hg, _, h96, h93, h92 => by
    have : g = 6 := by omega
    subst this
    refine ⟨(va_up u.1 93 (upd (u.1 93) t (nI (m + 1))), u.2), ?_, fun c a b => ?_, ?_, fun j hj => ?_, fun j hj => ?_⟩
    · simp (disch := omega) only [↓reduceIte, ↓qa_b, qa_b, qa_lit, qa_neg1, qa_qN, nI_add, pk_mul, qa_ix, qa_cl, qa_ltT, qa_ltF, qa_eqT, qa_eqF, qa_nN, qa_Nn, qa_ltN, qa_Nlt, qa_NN, qa_ltNN, qa_sub, qa_dec, qa_dec0, qa_sub0, qa_incN, qa_31, qa_shr, qa_shl, qa_and1, va_up_self, qa_une, pk_us, pk_un, qa_up2, qa_upd2, Option.bind_some, if_true, if_false, and_true, true_and, and_self, qa_f1, qa_f2, zM_layWay_L18, h93]
    · simp (disch := omega) only [↓reduceIte, ↓qa_b, qa_b, qa_lit, qa_neg1, qa_qN, nI_add, pk_mul, qa_ix, qa_cl, qa_ltT, qa_ltF, qa_eqT, qa_eqF, qa_nN, qa_Nn, qa_ltN, qa_Nlt, qa_NN, qa_ltNN, qa_sub, qa_dec, qa_dec0, qa_sub0, qa_incN, qa_31, qa_shr, qa_shl, qa_and1, va_up_self, qa_une, pk_us, pk_un, qa_up2, qa_upd2, Option.bind_some, if_true, if_false, and_true, true_and, and_self, qa_f1, qa_f2]
    · simp (disch := omega) only [↓reduceIte, ↓qa_b, qa_b, qa_lit, qa_neg1, qa_qN, nI_add, pk_mul, qa_ix, qa_cl, qa_ltT, qa_ltF, qa_eqT, qa_eqF, qa_nN, qa_Nn, qa_ltN, qa_Nlt, qa_NN, qa_ltNN, qa_sub, qa_dec, qa_dec0, qa_sub0, qa_incN, qa_31, qa_shr, qa_shl, qa_and1, va_up_self, qa_une, pk_us, pk_un, qa_up2, qa_upd2, Option.bind_some, if_true, if_false, and_true, true_and, and_self, qa_f1, qa_f2]
    · simp (disch := omega) only [↓reduceIte, ↓qa_b, qa_b, qa_lit, qa_neg1, qa_qN, nI_add, pk_mul, qa_ix, qa_cl, qa_ltT, qa_ltF, qa_eqT, qa_eqF, qa_nN, qa_Nn, qa_ltN, qa_Nlt, qa_NN, qa_ltNN, qa_sub, qa_dec, qa_dec0, qa_sub0, qa_incN, qa_31, qa_shr, qa_shl, qa_and1, va_up_self, qa_une, pk_us, pk_un, qa_up2, qa_upd2, Option.bind_some, if_true, if_false, and_true, true_and, and_self, qa_f1, qa_f2]
      exact h92 j hj
    · simp (disch := omega) only [↓reduceIte, ↓qa_b, qa_b, qa_lit, qa_neg1, qa_qN, nI_add, pk_mul, qa_ix, qa_cl, qa_ltT, qa_ltF, qa_eqT, qa_eqF, qa_nN, qa_Nn, qa_ltN, qa_Nlt, qa_NN, qa_ltNN, qa_sub, qa_dec, qa_dec0, qa_sub0, qa_incN, qa_31, qa_shr, qa_shl, qa_and1, va_up_self, qa_une, pk_us, pk_un, qa_up2, qa_upd2, Option.bind_some, if_true, if_false, and_true, true_and, and_self, qa_f1, qa_f2]
  | k + 1, n + 1, g, u, hg, hn, h96, h93, h92 => by
    obtain ⟨u', e, g1, g2, g3, g4⟩ := qr_layL ht hm7 c k n (g + 1) (va_up u.1 92 (upd (u.1 92) (6 * (720 * t + m) + g) (nI (qw_s on hm c g))), u.2) (by omega) (by omega) (by
        intro j hj
        simp (disch := omega) only [↓reduceIte, ↓qa_b, qa_b, qa_lit, qa_neg1, qa_qN, nI_add, pk_mul, qa_ix, qa_cl, qa_ltT, qa_ltF, qa_eqT, qa_eqF, qa_nN, qa_Nn, qa_ltN, qa_Nlt, qa_NN, qa_ltNN, qa_sub, qa_dec, qa_dec0, qa_sub0, qa_incN, qa_31, qa_shr, qa_shl, qa_and1, va_up_self, qa_une, pk_us, pk_un, qa_up2, qa_upd2, Option.bind_some, if_true, if_false, and_true, true_and, and_self, qa_f1, qa_f2]
        exact h96 j hj) (by
        simp (disch := omega) only [↓reduceIte, ↓qa_b, qa_b, qa_lit, qa_neg1, qa_qN, nI_add, pk_mul, qa_ix, qa_cl, qa_ltT, qa_ltF, qa_eqT, qa_eqF, qa_nN, qa_Nn, qa_ltN, qa_Nlt, qa_NN, qa_ltNN, qa_sub, qa_dec, qa_dec0, qa_sub0, qa_incN, qa_31, qa_shr, qa_shl, qa_and1, va_up_self, qa_une, pk_us, pk_un, qa_up2, qa_upd2, Option.bind_some, if_true, if_false, and_true, true_and, and_self, qa_f1, qa_f2]
        exact h93) (by
        intro j hj
        by_cases hjg : j = g
        · subst hjg
          simp (disch := omega) only [↓reduceIte, ↓qa_b, qa_b, qa_lit, qa_neg1, qa_qN, nI_add, pk_mul, qa_ix, qa_cl, qa_ltT, qa_ltF, qa_eqT, qa_eqF, qa_nN, qa_Nn, qa_ltN, qa_Nlt, qa_NN, qa_ltNN, qa_sub, qa_dec, qa_dec0, qa_sub0, qa_incN, qa_31, qa_shr, qa_shl, qa_and1, va_up_self, qa_une, pk_us, pk_un, qa_up2, qa_upd2, Option.bind_some, if_true, if_false, and_true, true_and, and_self, qa_f1, qa_f2]
        · simp (disch := omega) only [↓reduceIte, ↓qa_b, qa_b, qa_lit, qa_neg1, qa_qN, nI_add, pk_mul, qa_ix, qa_cl, qa_ltT, qa_ltF, qa_eqT, qa_eqF, qa_nN, qa_Nn, qa_ltN, qa_Nlt, qa_NN, qa_ltNN, qa_sub, qa_dec, qa_dec0, qa_sub0, qa_incN, qa_31, qa_shr, qa_shl, qa_and1, va_up_self, qa_une, pk_us, pk_un, qa_up2, qa_upd2, Option.bind_some, if_true, if_false, and_true, true_and, and_self, qa_f1, qa_f2]
          exact h92 j (by omega))
    refine ⟨u', ?_, fun c a b => ?_, ?_, g3, fun j hj => ?_⟩
    · have := h96 g (by omega)
      simp (disch := omega) only [↓reduceIte, ↓qa_b, qa_b, qa_lit, qa_neg1, qa_qN, nI_add, pk_mul, qa_ix, qa_cl, qa_ltT, qa_ltF, qa_eqT, qa_eqF, qa_nN, qa_Nn, qa_ltN, qa_Nlt, qa_NN, qa_ltNN, qa_sub, qa_dec, qa_dec0, qa_sub0, qa_incN, qa_31, qa_shr, qa_shl, qa_and1, va_up_self, qa_une, pk_us, pk_un, qa_up2, qa_upd2, Option.bind_some, if_true, if_false, and_true, true_and, and_self, qa_f1, qa_f2, zM_layWay_L18, this]
      exact e
    · rw [g1 c a b]
      simp (disch := omega) only [↓reduceIte, ↓qa_b, qa_b, qa_lit, qa_neg1, qa_qN, nI_add, pk_mul, qa_ix, qa_cl, qa_ltT, qa_ltF, qa_eqT, qa_eqF, qa_nN, qa_Nn, qa_ltN, qa_Nlt, qa_NN, qa_ltNN, qa_sub, qa_dec, qa_dec0, qa_sub0, qa_incN, qa_31, qa_shr, qa_shl, qa_and1, va_up_self, qa_une, pk_us, pk_un, qa_up2, qa_upd2, Option.bind_some, if_true, if_false, and_true, true_and, and_self, qa_f1, qa_f2]
    · rw [g2]
      simp (disch := omega) only [↓reduceIte, ↓qa_b, qa_b, qa_lit, qa_neg1, qa_qN, nI_add, pk_mul, qa_ix, qa_cl, qa_ltT, qa_ltF, qa_eqT, qa_eqF, qa_nN, qa_Nn, qa_ltN, qa_Nlt, qa_NN, qa_ltNN, qa_sub, qa_dec, qa_dec0, qa_sub0, qa_incN, qa_31, qa_shr, qa_shl, qa_and1, va_up_self, qa_une, pk_us, pk_un, qa_up2, qa_upd2, Option.bind_some, if_true, if_false, and_true, true_and, and_self, qa_f1, qa_f2]
    · rw [g4 j hj]
      simp (disch := omega) only [↓reduceIte, ↓qa_b, qa_b, qa_lit, qa_neg1, qa_qN, nI_add, pk_mul, qa_ix, qa_cl, qa_ltT, qa_ltF, qa_eqT, qa_eqF, qa_nN, qa_Nn, qa_ltN, qa_Nlt, qa_NN, qa_ltNN, qa_sub, qa_dec, qa_dec0, qa_sub0, qa_incN, qa_31, qa_shr, qa_shl, qa_and1, va_up_self, qa_une, pk_us, pk_un, qa_up2, qa_upd2, Option.bind_some, if_true, if_false, and_true, true_and, and_self, qa_f1, qa_f2]
theorem qr_lay {t : Nat} {l : List (Nat → Nat)} {u : zHM} (ht : t < 24) (hl : l.length < 720) (c : Nat → Nat) (h96 : ∀ j, j < 6 → u.1 96 j = nI (qw_s on hm c j)) (hr : qr_rows on hm t u l) : ∃ u', zM_layWay (nI t) u = some u' ∧ qr_g u u' ∧ qr_oth t u u' ∧ u'.1 95 = u.1 95 ∧ u'.1 96 = u.1 96 ∧ qr_rows on hm t u' (l ++ [c]) := by
  obtain ⟨u', e, g1, g2, g3, g4⟩ := qr_layL ht hl c 6 am_N 0 u (by omega) (by decide) h96 hr.1 (fun j hj => by omega)
  refine ⟨u', ?_, fun c a b d e f g => g1 c d e, ⟨fun j hj => ?_, fun j hj => g4 j (by omega)⟩, g1 95 (by omega) (by omega), g1 96 (by omega) (by omega), ?_, fun i c' hc => ?_⟩
  · have := hr.1
    simp (disch := omega) only [↓reduceIte, ↓qa_b, qa_b, qa_lit, qa_neg1, qa_qN, nI_add, pk_mul, qa_ix, qa_cl, qa_ltT, qa_ltF, qa_eqT, qa_eqF, qa_nN, qa_Nn, qa_ltN, qa_Nlt, qa_NN, qa_ltNN, qa_sub, qa_dec, qa_dec0, qa_sub0, qa_incN, qa_31, qa_shr, qa_shl, qa_and1, va_up_self, qa_une, pk_us, pk_un, qa_up2, qa_upd2, Option.bind_some, if_true, if_false, and_true, true_and, and_self, qa_f1, qa_f2, zM_layWay, this]
    exact e
  · rw [g2]
    simp (disch := omega) only [↓reduceIte, ↓qa_b, qa_b, qa_lit, qa_neg1, qa_qN, nI_add, pk_mul, qa_ix, qa_cl, qa_ltT, qa_ltF, qa_eqT, qa_eqF, qa_nN, qa_Nn, qa_ltN, qa_Nlt, qa_NN, qa_ltNN, qa_sub, qa_dec, qa_dec0, qa_sub0, qa_incN, qa_31, qa_shr, qa_shl, qa_and1, va_up_self, qa_une, pk_us, pk_un, qa_up2, qa_upd2, Option.bind_some, if_true, if_false, and_true, true_and, and_self, qa_f1, qa_f2]
  · rw [g2]
    simp (disch := omega) only [↓reduceIte, ↓qa_b, qa_b, qa_lit, qa_neg1, qa_qN, nI_add, pk_mul, qa_ix, qa_cl, qa_ltT, qa_ltF, qa_eqT, qa_eqF, qa_nN, qa_Nn, qa_ltN, qa_Nlt, qa_NN, qa_ltNN, qa_sub, qa_dec, qa_dec0, qa_sub0, qa_incN, qa_31, qa_shr, qa_shl, qa_and1, va_up_self, qa_une, pk_us, pk_un, qa_up2, qa_upd2, Option.bind_some, if_true, if_false, and_true, true_and, and_self, qa_f1, qa_f2, List.length_append, List.length_singleton]
  · intro g hg
    rw [List.getElem?_append] at hc
    split at hc
    · next hi =>
      rw [g4 _ (by omega)]
      exact hr.2 i c' hc g hg
    · next hi =>
      have hi2 : i = l.length := by
        by_cases h : i - l.length = 0
        · omega
        · rw [List.getElem?_eq_none (by simp; omega)] at hc
          cases hc
      subst hi2
      rw [Nat.sub_self] at hc
      cases hc
      exact g3 g hg
end
