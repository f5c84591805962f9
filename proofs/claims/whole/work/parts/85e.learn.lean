/-! THE HEART: all that the class learns -/
section
variable {L P pn fn tn bn : Nat} {h : Nat → Nat → Int32} {w : zHM}
/-- a heap that differs in what is learned alone -/
def qk_fl (h h' : Nat → Nat → Int32) : Prop := (∀ c, c ≤ 59 → h' c = h c) ∧ (∀ c, 65 ≤ c → h' c = h c)
theorem qk_fl.tr {h h' h'' : Nat → Nat → Int32} (a : qk_fl h h') (b : qk_fl h' h'') : qk_fl h h'' := ⟨fun q hq => (b.1 q hq).trans (a.1 q hq), fun q hq => (b.2 q hq).trans (a.2 q hq)⟩
theorem qk_row (HA : qi_a L P pn fn tn bn (w.1 84)) (hP : P ≤ 8) {x t : Nat} (ht : t < bn) (hx : x ≤ 48) (K : Nat → Int32 → (Nat → Nat → Int32) → Option (Nat → Nat → Int32)) : ∀ (k n f : Nat) (h : Nat → Nat → Int32), f + k = fn → k < n → qi_stg 0 P pn fn tn bn h (w.1 84) → qk_askH x h (w.1 84) (w.1 86) → (∀ t', t' < t → ∀ g, g < fn → qk_ok (w.1 84) (w.1 86) pn h t' g) → (∀ g, g < f → qk_ok (w.1 84) (w.1 86) pn h t g) →
    ∃ h', zL_learn_L26 K n x (nI t) (nI f) h = K x (nI (t + 1)) h' ∧ qk_fl h h' ∧ (∀ t', t' < t + 1 → ∀ g, g < fn → qk_ok (w.1 84) (w.1 86) pn h' t' g)
  | 0, n + 1, f, h, hf, _, HS, hask, o1, o2 => by
    have : f = fn := by omega
    subst this
    obtain ⟨a0, a1, a4, a6, lpn, lfn, ltn, lbn⟩ := HA.1
    have s4 := (qi_stg0 HS).1.2.2.1
    refine ⟨h, ?_, ⟨fun _ _ => rfl, fun _ _ => rfl⟩, fun t' ht' g hg => ?_⟩
    · simp (disch := omega) only [↓reduceIte, ↓qa_b, qa_b, qa_lit, qa_neg1, qa_qN, nI_add, pk_mul, qa_ix, qa_cl, qa_ltT, qa_ltF, qa_eqT, qa_eqF, qa_nN, qa_Nn, qa_ltN, qa_Nlt, qa_NN, qa_ltNN, qa_sub, qa_dec, qa_dec0, qa_sub0, qa_incN, qa_31, qa_shr, qa_shl, qa_and1, va_up_self, qa_une, pk_us, pk_un, qa_up2, qa_upd2, Option.bind_some, if_true, if_false, and_true, true_and, and_self, qa_f1, qa_f2, zL_learn_L26, s4]
    · by_cases e : t' = t
      · subst e; exact o2 g hg
      · exact o1 t' (by omega) g hg
  | k + 1, n + 1, f, h, hf, hn, HS, hask, o1, o2 => by
    obtain ⟨a0, a1, a4, a6, lpn, lfn, ltn, lbn⟩ := HA.1
    obtain ⟨h1, e1, f1, g1⟩ := qk_cell HA hP ht (show f < fn by omega) hx HS hask n K
    have keep : ∀ t' g, g < fn → t' * 6 + g ≠ t * 6 + f → qk_ok (w.1 84) (w.1 86) pn h t' g → qk_ok (w.1 84) (w.1 86) pn h1 t' g := fun t' g _ hne H => qk_ok_h (f1.2.2 _ hne) H
    obtain ⟨h2, e2, f2, g2⟩ := qk_row HA hP ht hx K k n (f + 1) h1 (by omega) (by omega) (qi_stg_h (fun c _ hc => f1.1 c (by omega)) HS) (qk_askH_h hask (fun c hc => f1.1 c (by omega))) (fun t' ht' g hg => keep t' g hg (by omega) (o1 t' ht' g hg)) (fun g hg => by
      by_cases e : g = f
      · subst e; exact g1
      · exact keep t g (by omega) (by omega) (o2 g (by omega)))
    exact ⟨h2, e1.trans e2, qk_fl.tr ⟨f1.1, f1.2.1⟩ f2, g2⟩
theorem qk_all (HA : qi_a L P pn fn tn bn (w.1 84)) (hP : P ≤ 8) {x : Nat} (hx : x ≤ 48) : ∀ (k n t : Nat) (h : Nat → Nat → Int32), t + k = bn → k < n → qi_stg 0 P pn fn tn bn h (w.1 84) → qk_askH x h (w.1 84) (w.1 86) → (∀ t', t' < t → ∀ g, g < fn → qk_ok (w.1 84) (w.1 86) pn h t' g) →
    ∃ h', zL_learn_L15 n x (nI t) h = some h' ∧ qk_fl h h' ∧ (∀ t', t' < bn → ∀ g, g < fn → qk_ok (w.1 84) (w.1 86) pn h' t' g)
  | 0, n + 1, t, h, ht, _, HS, hask, o1 => by
    have : t = bn := by omega
    subst this
    obtain ⟨a0, a1, a4, a6, lpn, lfn, ltn, lbn⟩ := HA.1
    have s13 := (qi_stg0 HS).1.2.2.2.2.2.2.2
    refine ⟨h, ?_, ⟨fun _ _ => rfl, fun _ _ => rfl⟩, o1⟩
    simp (disch := omega) only [↓reduceIte, ↓qa_b, qa_b, qa_lit, qa_neg1, qa_qN, nI_add, pk_mul, qa_ix, qa_cl, qa_ltT, qa_ltF, qa_eqT, qa_eqF, qa_nN, qa_Nn, qa_ltN, qa_Nlt, qa_NN, qa_ltNN, qa_sub, qa_dec, qa_dec0, qa_sub0, qa_incN, qa_31, qa_shr, qa_shl, qa_and1, va_up_self, qa_une, pk_us, pk_un, qa_up2, qa_upd2, Option.bind_some, if_true, if_false, and_true, true_and, and_self, qa_f1, qa_f2, zL_learn_L15, s13]
  | k + 1, n + 1, t, h, ht, hn, HS, hask, o1 => by
    obtain ⟨a0, a1, a4, a6, lpn, lfn, ltn, lbn⟩ := HA.1
    have s13 := (qi_stg0 HS).1.2.2.2.2.2.2.2
    obtain ⟨h1, e1, f1, g1⟩ := qk_row HA hP (show t < bn by omega) hx (fun v2 v3 h => zL_learn_L15 n v2 v3 h) fn am_N 0 h (by omega) (Nat.lt_of_le_of_lt lfn (by decide)) HS hask o1 (fun g hg => by omega)
    obtain ⟨h2, e2, f2, g2⟩ := qk_all HA hP hx k n (t + 1) h1 (by omega) (by omega) (qi_stg_h (fun c _ hc => f1.1 c (by omega)) HS) (qk_askH_h hask (fun c hc => f1.1 c (by omega))) g1
    refine ⟨h2, ?_, f1.tr f2, g2⟩
    rw [zL_learn_L15, s13]
    simp (disch := omega) only [↓reduceIte, qa_ltT, qa_lit]
    exact e1.trans e2
/-- what was learned is right -/
def qk_L (a tx : Nat → Int32) (pn fn bn : Nat) (h : Nat → Nat → Int32) : Prop := ∀ t, t < bn → ∀ f, f < fn → qk_ok a tx pn h t f
theorem qk_learn (HA : qi_a L P pn fn tn bn (w.1 84)) (hP : P ≤ 8) {x : Nat} (hx : x ≤ 48) (HS : qi_stg 0 P pn fn tn bn h (w.1 84)) (hask : qk_askH x h (w.1 84) (w.1 86)) (hc : h 59 2 = nI 0 ∨ h 59 2 = nI 1 ∧ qk_L (w.1 84) (w.1 86) pn fn bn h) : ∃ h', zL_learn x h = some h' ∧ (∀ c, c ≤ 58 → h' c = h c) ∧ (∀ c, 65 ≤ c → h' c = h c) ∧ h' 59 2 = nI 1 ∧ qk_L (w.1 84) (w.1 86) pn fn bn h' := by
  obtain ⟨a0, a1, a4, a6, lpn, lfn, ltn, lbn⟩ := HA.1
  rcases hc with hc | ⟨hc, HL⟩
  · obtain ⟨h', e, f1, g⟩ := qk_all HA hP hx bn am_N 0 (va_up h 59 (upd (h 59) 2 (nI 1))) (by omega) (Nat.lt_of_le_of_lt lbn (by decide)) (qi_stg_h (fun c _ hc => qa_une _ _ (by omega)) HS) (qk_askH_h hask (fun c hc => qa_une _ _ (by omega))) (fun t' ht' => by omega)
    refine ⟨h', ?_, fun c hc => ?_, fun c hc => ?_, ?_, g⟩
    · unfold zL_learn
      simp (disch := omega) only [↓reduceIte, ↓qa_b, hc, qa_lit, qa_eqT]
      exact e
    · rw [f1.1 c (by omega), qa_une _ _ (by omega)]
    · rw [f1.2 c hc, qa_une _ _ (by omega)]
    · rw [f1.1 59 (by omega), va_up_self, pk_us]
  · refine ⟨h, ?_, fun _ _ => rfl, fun _ _ => rfl, hc, HL⟩
    unfold zL_learn
    simp (disch := omega) only [↓reduceIte, hc, qa_lit, qa_eqF]
end
/-! sees -/
def qs_mn (a : Nat → Int32) (t f : Nat) : Nat → Nat → Nat
  | _, 0 => 0
  | g, k + 1 => (if a (50 + 6 * t + g) = a (50 + 6 * t + f) then 1 else 0) + qs_mn a t f (g + 1) k
theorem qs_mn_le (a : Nat → Int32) (t f : Nat) : ∀ k g, qs_mn a t f g k ≤ k
  | 0, _ => Nat.le_refl 0
  | k + 1, g => by
    have := qs_mn_le a t f k (g + 1)
    unfold qs_mn
    split <;> omega
