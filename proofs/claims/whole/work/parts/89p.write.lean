/-! THE HEART: search: the class writes the plan, the reference goes along -/
section
variable {pn fn bn b t : Nat} {o : Nat → Nat → Bool} {kd : Nat → Nat} {pv : Nat → Nat → Nat → Nat → Bool} {W : Nat → List (Nat → Nat)} {h : Nat → Nat → Int32} {hm : Nat → Nat → Nat}
theorem qy_hands (H : qy_L pn fn bn 1 o kd pv h) {x : Nat → Nat} (hx : ∀ g, x g < 8) {f : Nat} (hf : f < fn) (hh : zH_handsOf (nI (kd f)) (nI (x f)) = nI (hm f (x f))) : zS_handsIn (nI (qw_e x fn)) (nI f) h = some (nI (hm f (x f))) := by
  obtain ⟨⟨l1, l2, l3, l4⟩, ⟨e0, e1, e2⟩, H66, -⟩ := id H
  have k1 := (H66 f hf).1
  have bX := qz_eb6 (x := x) hx l2
  have dX := qz_eg hx hf
  have es : zS_shiftOf (nI f) h = nI (3 * (fn - 1 - f)) := by
    simp (disch := omega) only [zS_shiftOf, e2, qa_lit, qa_sub, pk_mul]
  have s1 : fn - 1 - f < 6 := by omega
  generalize fn - 1 - f = m at *
  simp (disch := omega) only [↓reduceIte, ↓qa_b, zS_handsIn, qa_ix, qa_cl, es, k1, qa_31, qa_lit, qa_shr, qa_and7, dX, hh]
theorem qy_w64 (H : qy_L pn fn bn 1 o kd pv h) (hb : b ≤ 1008) (ht : t < bn) {x : Nat → Nat} (hx : ∀ g, x g < 8) (ho : ∀ f, fn ≤ f → o t f = false) (hh : ∀ f, f < fn → o t f = true → zH_handsOf (nI (kd f)) (nI (x f)) = nI (hm f (x f))) (K : Int32 → Int32 → Int32 → Int32 → (Nat → Nat → Int32) → Option (Nat → Nat → Int32)) (V : Int32) :
    ∀ (k n f : Nat) (h' : Nat → Nat → Int32), f + k = 6 → k < n → (∀ c, c ≠ 79 → h' c = h c) → (∀ g, g < f → h' 79 (b + (t * 6 + g)) = nI (qw_s (o t) hm x g)) → ∃ h'', zS_write_L64 K n (nI b) (nI (qw_e x fn)) V (nI t) (nI f) h' = K (nI b) (nI (qw_e x fn)) V (nI (t + 1)) h'' ∧ (∀ c, c ≠ 79 → h'' c = h c) ∧ (∀ g, g < 6 → h'' 79 (b + (t * 6 + g)) = nI (qw_s (o t) hm x g)) ∧ ∀ j, j < b + t * 6 ∨ b + t * 6 + 6 ≤ j → h'' 79 j = h' 79 j
  | 0, n + 1, f, h', hf, _, hc, hg => by
    have : f = 6 := by omega
    subst this
    obtain ⟨⟨l1, l2, l3, l4⟩, -⟩ := id H
    refine ⟨h', ?_, hc, hg, fun _ _ => rfl⟩
    simp (disch := omega) only [↓reduceIte, zS_write_L64, qa_lit, qa_ltF, nI_add]
  | k + 1, n + 1, f, h', hf, hn, hc, hg => by
    obtain ⟨⟨l1, l2, l3, l4⟩, ⟨e0, e1, e2⟩, -, H68, -⟩ := id H
    have H' := qy_L_h (h' := h') (fun c _ _ => hc c (by omega)) H
    generalize hv : va_up h' 79 (upd (h' 79) (b + (t * 6 + f)) (nI (qw_s (o t) hm x f))) = v
    have v0 : ∀ c, c ≠ 79 → v c = h' c := fun c a => by
      subst hv
      simp (disch := omega) only [↓reduceIte, ↓qa_b, qa_b, qa_lit, qa_neg1, qa_qN, nI_add, pk_mul, qa_ix, qa_cl, qa_ltT, qa_ltF, qa_eqT, qa_eqF, qa_nN, qa_Nn, qa_ltN, qa_Nlt, qa_NN, qa_ltNN, qa_sub, qa_dec, qa_dec0, qa_sub0, qa_incN, qa_31, qa_shr, qa_shl, qa_and1, va_up_self, qa_une, pk_us, pk_un, qa_up2, qa_upd2, Option.bind_some, if_true, if_false, and_true, true_and, and_self, qa_f1, qa_f2]
    have v79 : v 79 = upd (h' 79) (b + (t * 6 + f)) (nI (qw_s (o t) hm x f)) := by
      subst hv
      simp (disch := omega) only [↓reduceIte, ↓qa_b, qa_b, qa_lit, qa_neg1, qa_qN, nI_add, pk_mul, qa_ix, qa_cl, qa_ltT, qa_ltF, qa_eqT, qa_eqF, qa_nN, qa_Nn, qa_ltN, qa_Nlt, qa_NN, qa_ltNN, qa_sub, qa_dec, qa_dec0, qa_sub0, qa_incN, qa_31, qa_shr, qa_shl, qa_and1, va_up_self, qa_une, pk_us, pk_un, qa_up2, qa_upd2, Option.bind_some, if_true, if_false, and_true, true_and, and_self, qa_f1, qa_f2]
    obtain ⟨h'', g1, g2, g3, g4⟩ := qy_w64 H hb ht hx ho hh K V k n (f + 1) v (by omega) (by omega) (fun c a => by rw [v0 c a, hc c a]) (fun g hgf => by
      rw [v79]
      by_cases q : g = f
      · subst q
        rw [pk_us]
      · rw [pk_un (by omega)]
        exact hg g (by omega))
    refine ⟨h'', ?_, g2, g3, fun j hj => by rw [g4 j hj, v79, pk_un (by omega)]⟩
    rw [← g1, ← hv]
    have E2 : h' 65 2 = nI fn := by rw [hc 65 (by omega)]; exact e2
    have E68 := hc 68 (by omega)
    by_cases hfn : f < fn
    · obtain ⟨a1, a2⟩ := H68 t ht f hfn
      cases hq : o t f
      · have a1 := a1 hq
        have es : qw_s (o t) hm x f = 0 := by unfold qw_s; rw [hq]; rfl
        rw [es]
        simp (disch := omega) only [↓reduceIte, ↓qa_b, zS_write_L64, zS_write_J101, zS_write_J106, E2, E68, qa_lit, qa_ltT, pk_mul, nI_add, qa_ix, qa_cl, a1, qa_neg1, qa_qN, qa_eqF]
      · obtain ⟨s, s8, a2⟩ := a2 hq
        have es : qw_s (o t) hm x f = hm f (x f) := by unfold qw_s; rw [hq]; rfl
        have eh := qy_hands (hm := hm) H' hx hfn (hh f hfn hq)
        rw [es]
        simp (disch := omega) only [↓reduceIte, ↓qa_b, zS_write_L64, zS_write_J106, E2, E68, qa_lit, qa_ltT, pk_mul, nI_add, qa_ix, qa_cl, a2, qa_neg1, qa_qN, qa_nN, eh, Option.bind_some]
    · have es : qw_s (o t) hm x f = 0 := by unfold qw_s; rw [ho f (by omega)]; rfl
      rw [es]
      simp (disch := omega) only [↓reduceIte, ↓qa_b, zS_write_L64, zS_write_J101, zS_write_J106, E2, qa_lit, qa_ltT, qa_ltF, pk_mul, nI_add, qa_ix, qa_cl, qa_eqF]
theorem qy_wr (H : qy_L pn fn bn 1 o kd pv h) (hW : qy_W pn fn bn o kd W) (hM : qy_M fn bn 1 o kd pv W 0 < 1000000) (rows : ∀ t, t < bn → qy_row fn bn 1 o kd pv W t h) (hb : b ≤ 1008) (ho : ∀ t f, fn ≤ f → o t f = false) (hh : ∀ t, t < bn → ∀ x ∈ W t, ∀ f, f < fn → o t f = true → zH_handsOf (nI (kd f)) (nI (x f)) = nI (hm f (x f))) :
    ∀ (k n t : Nat) (h' : Nat → Nat → Int32), t + k = bn → k < n → (∀ c, c ≠ 79 → h' c = h c) → (∀ t', t' < t → ∀ g, g < 6 → h' 79 (b + (t' * 6 + g)) = nI (qw_s (o t') hm (qy_z fn bn o kd pv W t') g)) → ∃ h'', zS_write_L24 n (nI b) (nI (qy_n fn bn o kd pv W t)) (nI (qy_q fn bn o kd pv W t)) (nI t) h' = some h'' ∧ (∀ c, c ≠ 79 → h'' c = h c) ∧ (∀ t', t' < bn → ∀ g, g < 6 → h'' 79 (b + (t' * 6 + g)) = nI (qw_s (o t') hm (qy_z fn bn o kd pv W t') g)) ∧ ∀ j, j < b ∨ b + 144 ≤ j → h'' 79 j = h' 79 j
  | 0, n + 1, t, h', htk, _, hc, hg => by
    obtain ⟨⟨l1, l2, l3, l4⟩, ⟨e0, e1, e2⟩, -⟩ := id H
    have : t = bn := by omega
    subst this
    have E1 : h' 65 1 = nI t := by rw [hc 65 (by omega)]; exact e1
    refine ⟨h', ?_, hc, hg, fun _ _ => rfl⟩
    simp (disch := omega) only [↓reduceIte, zS_write_L24, E1, qa_ltF]
  | k + 1, n + 1, t, h', htk, hn, hc, hg => by
    obtain ⟨⟨l1, l2, l3, l4⟩, ⟨e0, e1, e2⟩, -⟩ := id H
    have ht : t < bn := by omega
    have H' := qy_L_h (h' := h') (fun c _ _ => hc c (by omega)) H
    have rows' : ∀ t, t < bn → qy_row fn bn 1 o kd pv W t h' := fun t ht => by
      unfold qy_row
      rw [hc 73 (by omega), hc 71 (by omega), hc 72 (by omega), hc 74 (by omega)]
      exact rows t ht
    have E1 : h' 65 1 = nI bn := by rw [hc 65 (by omega)]; exact e1
    have fa := qy_fa H' hW hM rows' ht
    obtain ⟨r1, r2, r3⟩ := rows' t ht
    obtain ⟨-, q6, i1, i2⟩ := qy_i_s hM t ht
    obtain ⟨w1, w2, w3⟩ := hW t ht
    obtain ⟨z1, z2⟩ := r2 _ i1
    have zw := w2 _ (qy_x_m i1)
    obtain ⟨h1, p1, p2, p3, p4⟩ := qy_w64 (b := b) (t := t) (hm := hm) H hb ht (x := qy_z fn bn o kd pv W t) (fun g => Nat.lt_trans (zw.1 g) (by decide)) (ho t) (hh t ht _ (qy_x_m i1)) (fun v2 v3 v4 v5 h => zS_write_L24 n v2 v3 v4 v5 h) (nI (qy_q fn bn o kd pv W (t + 1))) 6 am_N 0 h' (by omega) (by decide) hc (fun g hg' => by omega)
    obtain ⟨h2, x1, x2, x3, x4⟩ := qy_wr H hW hM rows hb ho hh k n (t + 1) h1 (by omega) (by omega) p2 (fun t' ht' g hg' => by
      by_cases q : t' = t
      · rw [q]
        exact p3 g hg'
      · rw [p4 _ (by omega)]
        exact hg t' (by omega) g hg')
    refine ⟨h2, ?_, x2, x3, fun j hj => by rw [x4 j hj, p4 j (by omega)]⟩
    have step : zS_write_L24 (n + 1) (nI b) (nI (qy_n fn bn o kd pv W t)) (nI (qy_q fn bn o kd pv W t)) (nI t) h' = zS_write_L64 (fun v2 v3 v4 v5 h => zS_write_L24 n v2 v3 v4 v5 h) am_N (nI b) (nI (qw_e (qy_z fn bn o kd pv W t) fn)) (nI (qy_q fn bn o kd pv W (t + 1))) (nI t) (nI 0) h' := by
      simp (disch := omega) only [↓reduceIte, ↓qa_b, zS_write_L24, E1, qa_ltT, fa, Option.bind_some, qa_ix, qa_cl, z1, z2, qa_lit]
      rfl
    rw [step, p1]
    exact x1
theorem qy_write (H : qy_L pn fn bn 1 o kd pv h) (hW : qy_W pn fn bn o kd W) (hM : 0 < bn → qy_M fn bn 1 o kd pv W 0 < 1000000) (rows : ∀ t, t < bn → qy_row fn bn 1 o kd pv W t h) (hb : b ≤ 1008) (ho : ∀ t f, fn ≤ f → o t f = false) (hh : ∀ t, t < bn → ∀ x ∈ W t, ∀ f, f < fn → o t f = true → zH_handsOf (nI (kd f)) (nI (x f)) = nI (hm f (x f))) :
    ∃ h'', zS_write (nI b) h = some h'' ∧ (∀ c, c ≠ 79 → h'' c = h c) ∧ (∀ t', t' < bn → ∀ g, g < 6 → h'' 79 (b + (t' * 6 + g)) = nI (qw_s (o t') hm (qy_z fn bn o kd pv W t') g)) ∧ ∀ j, j < b ∨ b + 144 ≤ j → h'' 79 j = h 79 j := by
  obtain ⟨⟨l1, l2, l3, l4⟩, ⟨e0, e1, e2⟩, -⟩ := id H
  rcases Nat.eq_zero_or_pos bn with hz | hz
  · subst hz
    refine ⟨h, ?_, fun _ _ => rfl, fun t' ht' => by omega, fun _ _ => rfl⟩
    have key : ∀ n, zS_write_L24 (n + 1) (nI b) (nI 0) (nI 0) (nI 0) h = some h := fun n => by
      simp (disch := omega) only [↓reduceIte, zS_write_L24, e1, qa_ltF]
    rw [← key 999999]
    simp (disch := omega) only [↓reduceIte, zS_write, e1, qa_lit, qa_ltF]
    rfl
  · obtain ⟨h2, x1, x2⟩ := qy_wr (hm := hm) H hW (hM hz) rows hb ho hh bn am_N 0 h (by omega) (Nat.lt_of_le_of_lt l3 (by decide)) (fun _ _ => rfl) (fun t' ht' => by omega)
    refine ⟨h2, ?_, x2⟩
    have r3 := (rows 0 hz).2.2
    rw [← x1]
    simp (disch := omega) only [↓reduceIte, ↓qa_b, zS_write, e1, qa_lit, qa_ltT, r3]
    rfl
end
