/-! THE HEART: search: the reference goes along -/
section
variable {t m v bn : Nat} {T r : Nat → Nat} {u : zHM}
theorem qe_ga29 (ht : t < 24) (hm : m ≤ 720) (hv : v < 1000000) (e94 : ∀ j, j < m → u.1 94 (720 * t + j) = nI (T j) ∧ T j ≤ 1000000) (h0 : t = 0 → ∀ j, r j = 0) (h1 : 0 < t → ∀ j, j < m → zM_swapped (nI t) (u.1 98 (t - 1)) (nI j) u = some (nI (r j)) ∧ r j ≤ 1000000) (K : Int32 → Int32 → zHM → Option zHM) :
    ∀ (k n j : Nat), j + k = m → k < n → (∃ i, j ≤ i ∧ i < m ∧ r i + T i = v) → zM_goAlong_L29 K n (nI v) (nI t) (nI j) u = K (nI (T (qy_fi (fun j => decide (r j + T j = v)) j k))) (nI (t + 1)) (va_up u.1 98 (upd (u.1 98) t (nI (qy_fi (fun j => decide (r j + T j = v)) j k))), u.2)
  | 0, n + 1, j, hj, _, ⟨i, q1, q2, _⟩ => by omega
  | k + 1, n + 1, j, hj, hn, ⟨i, q1, q2, q3⟩ => by
    obtain ⟨e1, e2⟩ := e94 j (by omega)
    unfold qy_fi
    have nx : r j + T j ≠ v → zM_goAlong_L29 K n (nI v) (nI t) (nI (j + 1)) u = K (nI (T (qy_fi (fun j => decide (r j + T j = v)) (j + 1) k))) (nI (t + 1)) (va_up u.1 98 (upd (u.1 98) t (nI (qy_fi (fun j => decide (r j + T j = v)) (j + 1) k))), u.2) := fun q => qe_ga29 ht hm hv e94 h0 h1 K k n (j + 1) (by omega) (by omega) ⟨i, by
        by_cases e : i = j
        · subst e; exact absurd q3 q
        · omega, q2, q3⟩
    by_cases hT : T j < 1000000
    · rcases Nat.eq_zero_or_pos t with hz | hz
      · have z := h0 hz j
        subst hz
        by_cases q : r j + T j = v
        · rw [decide_eq_true q, if_pos rfl]
          rw [z, Nat.zero_add] at q
          subst q
          simp (disch := omega) only [↓reduceIte, ↓qa_b, zM_goAlong_L29, zM_goAlong_J69, qa_lit, pk_mul, nI_add, qa_ix, qa_cl, e1, qa_ltT, Nat.zero_add]
        · rw [decide_eq_false q, if_neg (by decide), ← nx q]
          rw [z, Nat.zero_add] at q
          simp (disch := omega) only [↓reduceIte, ↓qa_b, zM_goAlong_L29, zM_goAlong_J69, qa_lit, pk_mul, nI_add, qa_ix, qa_cl, e1, qa_ltT, Nat.zero_add, qa_eqF]
      · obtain ⟨e3, e4⟩ := h1 hz j (by omega)
        by_cases q : r j + T j = v
        · rw [decide_eq_true q, if_pos rfl]
          subst q
          simp (disch := omega) only [↓reduceIte, ↓qa_b, zM_goAlong_L29, zM_goAlong_J69, qa_lit, pk_mul, nI_add, qa_ix, qa_cl, e1, qa_ltT, qa_eqF, qa_sub, e3, Option.bind_some]
        · rw [decide_eq_false q, if_neg (by decide), ← nx q]
          simp (disch := omega) only [↓reduceIte, ↓qa_b, zM_goAlong_L29, zM_goAlong_J69, qa_lit, pk_mul, nI_add, qa_ix, qa_cl, e1, qa_ltT, qa_eqF, qa_sub, e3, Option.bind_some]
    · have q : r j + T j ≠ v := by omega
      rw [decide_eq_false q, if_neg (by decide), ← nx q]
      simp (disch := omega) only [↓reduceIte, ↓qa_b, zM_goAlong_L29, qa_lit, pk_mul, nI_add, qa_ix, qa_cl, e1, qa_ltF]
end
section
variable {L P pn fn tn bn : Nat} {w : zHM} {hmo : Nat → Nat}
/-- the reference's least of all -/
theorem qe_least {st sk hk : Nat} {a tx : Nat → Int32} {or : Nat → Nat} (hb : bn ≤ 24) (ea : w.1 84 6 = nI bn) (hl : (qe_W a tx pn fn st sk or hk 0).length ≤ 720) (rows : ∀ t, t < bn → qe_row a tx pn fn bn st sk or hk t w) : zM_leastOf w = some (nI (qy_R fn bn 1 (qx_on a fn sk) (qs_kd a) (qe_pv a tx) (qe_W a tx pn fn st sk or hk) 0)) := by
  unfold qy_R zM_leastOf
  rw [ea]
  rcases Nat.eq_zero_or_pos bn with hz | hz
  · subst hz
    rw [if_neg (show ¬ 0 < 0 by omega)]
    simp (disch := omega) only [↓reduceIte, qa_lit]
  · rw [if_pos hz]
    obtain ⟨r1, r2⟩ := rows 0 hz
    have := qz_loL (m := (qe_W a tx pn fn st sk or hk 0).length) (u := w) (T := fun i => qe_T a tx pn fn bn st sk or hk 1 0 (qy_x (qe_W a tx pn fn st sk or hk 0) i)) hl r1.1 (fun j hj => by
      have := r2 j hj
      rw [Nat.mul_zero, Nat.zero_add] at this
      exact ⟨this, qy_T_le _ _ _⟩) (qe_W a tx pn fn st sk or hk 0).length am_N 0 1000000 (by omega) (Nat.lt_of_le_of_lt hl (by decide)) (Nat.le_refl _)
    simp (disch := omega) only [↓reduceIte, qa_lit, qa_eqF]
    exact this
theorem qe_ga7 (HA : qi_a L P pn fn tn bn (w.1 84)) (hP : P ≤ 8) (hask : qk_askM w) {st sk hk : Nat} (hs : st < 2 ^ pn) (hhk : hk ≤ 6)
    (rows : ∀ t, t < bn → qe_row (w.1 84) (w.1 86) pn fn bn st sk (qs_or hmo pn) hk t w) (hM : qy_M fn bn 1 (qx_on (w.1 84) fn sk) (qs_kd (w.1 84)) (qe_pv (w.1 84) (w.1 86)) (qe_W (w.1 84) (w.1 86) pn fn st sk (qs_or hmo pn) hk) 0 < 1000000) :
    ∀ (k n t : Nat) (u : zHM), t + k = bn → k < n → (∀ c, c ≠ 89 → c ≠ 91 → c ≠ 97 → c ≠ 98 → u.1 c = w.1 c) → (∀ t', t' < t → u.1 98 t' = nI (qy_i fn bn (qx_on (w.1 84) fn sk) (qs_kd (w.1 84)) (qe_pv (w.1 84) (w.1 86)) (qe_W (w.1 84) (w.1 86) pn fn st sk (qs_or hmo pn) hk) t')) → ∃ u', zM_goAlong_L7 n (nI (qy_q fn bn (qx_on (w.1 84) fn sk) (qs_kd (w.1 84)) (qe_pv (w.1 84) (w.1 86)) (qe_W (w.1 84) (w.1 86) pn fn st sk (qs_or hmo pn) hk) t)) (nI t) u = some u' ∧ (∀ c, c ≠ 89 → c ≠ 91 → c ≠ 97 → c ≠ 98 → u'.1 c = w.1 c) ∧ (∀ t', t' < bn → u'.1 98 t' = nI (qy_i fn bn (qx_on (w.1 84) fn sk) (qs_kd (w.1 84)) (qe_pv (w.1 84) (w.1 86)) (qe_W (w.1 84) (w.1 86) pn fn st sk (qs_or hmo pn) hk) t'))
  | 0, n + 1, t, u, htk, _, hc, hi => by
    obtain ⟨a0, a1, a4, a6, lpn, lfn, ltn, lbn⟩ := id HA.1
    have : t = bn := by omega
    subst this
    have b6 : u.1 84 6 = nI t := by rw [hc 84 (by omega) (by omega) (by omega) (by omega)]; exact a6
    refine ⟨u, ?_, hc, hi⟩
    simp (disch := omega) only [↓reduceIte, zM_goAlong_L7, b6, qa_ltF]
  | k + 1, n + 1, t, u, htk, hn, hc, hi => by
    obtain ⟨a0, a1, a4, a6, lpn, lfn, ltn, lbn⟩ := id HA.1
    have ht : t < bn := by omega
    have c84 := hc 84 (by omega) (by omega) (by omega) (by omega)
    have c86 := hc 86 (by omega) (by omega) (by omega) (by omega)
    have b6 : u.1 84 6 = nI bn := by rw [c84]; exact a6
    have wl : ∀ t', (qe_W (w.1 84) (w.1 86) pn fn st sk (qs_or hmo pn) hk t').length ≤ 720 := fun t' => qx_W_len HA hs hhk
    obtain ⟨⟨j, j1, j2⟩, q6, i1, i2⟩ := qy_i_s hM t ht
    have fin : ∀ u2 : zHM, (∀ c, c ≠ 89 → c ≠ 91 → c ≠ 97 → c ≠ 98 → u2.1 c = w.1 c) → u2.1 98 = u.1 98 → (0 < t → ∀ f, f < fn → ∀ p, p < 3 → ∀ q, q < 3 → u2.1 97 (9 * f + 3 * p + q) = qs_b (qe_pv (w.1 84) (w.1 86) t f p q)) → ∃ u', zM_goAlong_L29 (fun v1 v2 w => zM_goAlong_L7 n v1 v2 w) am_N (nI (qy_q fn bn (qx_on (w.1 84) fn sk) (qs_kd (w.1 84)) (qe_pv (w.1 84) (w.1 86)) (qe_W (w.1 84) (w.1 86) pn fn st sk (qs_or hmo pn) hk) t)) (nI t) (nI 0) u2 = some u' ∧ (∀ c, c ≠ 89 → c ≠ 91 → c ≠ 97 → c ≠ 98 → u'.1 c = w.1 c) ∧ (∀ t', t' < bn → u'.1 98 t' = nI (qy_i fn bn (qx_on (w.1 84) fn sk) (qs_kd (w.1 84)) (qe_pv (w.1 84) (w.1 86)) (qe_W (w.1 84) (w.1 86) pn fn st sk (qs_or hmo pn) hk) t')) := fun u2 y0 y1 y2 => by
      have row2 : ∀ t', t' < bn → qe_row (w.1 84) (w.1 86) pn fn bn st sk (qs_or hmo pn) hk t' u2 := fun t' ht' => by
        unfold qe_row qr_rows
        rw [y0 92 (by omega) (by omega) (by omega) (by omega), y0 93 (by omega) (by omega) (by omega) (by omega), y0 94 (by omega) (by omega) (by omega) (by omega)]
        exact rows t' ht'
      have G := qe_ga29 (t := t) (m := (qe_W (w.1 84) (w.1 86) pn fn st sk (qs_or hmo pn) hk t).length) (v := qy_q fn bn (qx_on (w.1 84) fn sk) (qs_kd (w.1 84)) (qe_pv (w.1 84) (w.1 86)) (qe_W (w.1 84) (w.1 86) pn fn st sk (qs_or hmo pn) hk) t) (T := fun j => qe_T (w.1 84) (w.1 86) pn fn bn st sk (qs_or hmo pn) hk 1 t (qy_x (qe_W (w.1 84) (w.1 86) pn fn st sk (qs_or hmo pn) hk t) j)) (r := qy_r fn bn (qx_on (w.1 84) fn sk) (qs_kd (w.1 84)) (qe_pv (w.1 84) (w.1 86)) (qe_W (w.1 84) (w.1 86) pn fn st sk (qs_or hmo pn) hk) t) (u := u2) (by omega) (wl t) q6 (fun j hj => ⟨(row2 t ht).2 j hj, qy_T_le _ _ _⟩) (fun z j => by subst z; rfl) (fun z j hj => by
          obtain ⟨s, rfl⟩ : ∃ s, t = s + 1 := ⟨t - 1, by omega⟩
          obtain ⟨-, -, p1, -⟩ := qy_i_s hM s (by omega)
          rw [Nat.add_sub_cancel, y1, hi s (by omega)]
          exact ⟨qe_sw HA (y0 84 (by omega) (by omega) (by omega) (by omega)) hs hhk ht (row2 s (by omega)).1 (row2 (s + 1) ht).1 (y2 z) p1 hj, qy_S_le lfn (Nat.le_refl 1) _ _⟩) (fun v1 v2 w => zM_goAlong_L7 n v1 v2 w) (qe_W (w.1 84) (w.1 86) pn fn st sk (qs_or hmo pn) hk t).length am_N 0 (by omega) (Nat.lt_of_le_of_lt (wl t) (by decide)) ⟨j, by omega, j1, j2⟩
      rw [G]
      have ei := qy_i_eq (fn := fn) (bn := bn) (o := qx_on (w.1 84) fn sk) (kd := qs_kd (w.1 84)) (pv := qe_pv (w.1 84) (w.1 86)) (W := qe_W (w.1 84) (w.1 86) pn fn st sk (qs_or hmo pn) hk) t
      unfold qe_T
      rw [← ei]
      refine qe_ga7 HA hP hask hs hhk rows hM k n (t + 1) _ (by omega) (by omega) (fun c c1 c2 c3 c4 => ?_) (fun t' ht' => ?_)
      · simp (disch := omega) only [↓reduceIte, ↓qa_b, qa_b, qa_lit, qa_neg1, qa_qN, nI_add, pk_mul, qa_ix, qa_cl, qa_ltT, qa_ltF, qa_eqT, qa_eqF, qa_nN, qa_Nn, qa_ltN, qa_Nlt, qa_NN, qa_ltNN, qa_sub, qa_dec, qa_dec0, qa_sub0, qa_incN, qa_31, qa_shr, qa_shl, qa_and1, va_up_self, qa_une, pk_us, pk_un, qa_up2, qa_upd2, Option.bind_some, if_true, if_false, and_true, true_and, and_self, qa_f1, qa_f2]
        exact y0 c c1 c2 c3 c4
      · by_cases q : t' = t
        · subst q
          simp (disch := omega) only [↓reduceIte, ↓qa_b, qa_b, qa_lit, qa_neg1, qa_qN, nI_add, pk_mul, qa_ix, qa_cl, qa_ltT, qa_ltF, qa_eqT, qa_eqF, qa_nN, qa_Nn, qa_ltN, qa_Nlt, qa_NN, qa_ltNN, qa_sub, qa_dec, qa_dec0, qa_sub0, qa_incN, qa_31, qa_shr, qa_shl, qa_and1, va_up_self, qa_une, pk_us, pk_un, qa_up2, qa_upd2, Option.bind_some, if_true, if_false, and_true, true_and, and_self, qa_f1, qa_f2]
        · simp (disch := omega) only [↓reduceIte, ↓qa_b, qa_b, qa_lit, qa_neg1, qa_qN, nI_add, pk_mul, qa_ix, qa_cl, qa_ltT, qa_ltF, qa_eqT, qa_eqF, qa_nN, qa_Nn, qa_ltN, qa_Nlt, qa_NN, qa_ltNN, qa_sub, qa_dec, qa_dec0, qa_sub0, qa_incN, qa_31, qa_shr, qa_shl, qa_and1, va_up_self, qa_une, pk_us, pk_un, qa_up2, qa_upd2, Option.bind_some, if_true, if_false, and_true, true_and, and_self, qa_f1, qa_f2]
          rw [y1]
          exact hi t' (by omega)
    rcases Nat.eq_zero_or_pos t with hz | hz
    · obtain ⟨u', x1, x2⟩ := fin u hc rfl (fun q => by omega)
      refine ⟨u', ?_, x2⟩
      rw [← x1]
      simp (disch := omega) only [↓reduceIte, zM_goAlong_L7, b6, qa_ltT, qa_lit, qa_ltF]
    · obtain ⟨u2, y1, y2, y3⟩ := qm_passes (w := u) (by rw [c84]; exact HA) hP (by
        unfold qk_askM at hask ⊢
        rw [c84, c86]
        exact hask) ht
      rw [c84, c86] at y3
      obtain ⟨u', x1, x2⟩ := fin u2 (fun c c1 c2 c3 c4 => by rw [y2 c c1 c2 c3, hc c c1 c2 c3 c4]) (y2 98 (by omega) (by omega) (by omega)) (fun _ => y3)
      refine ⟨u', ?_, x2⟩
      rw [← x1]
      simp (disch := omega) only [↓reduceIte, zM_goAlong_L7, b6, qa_ltT, qa_lit, y1, Option.bind_some]
theorem qm_along (HA : qi_a L P pn fn tn bn (w.1 84)) (hP : P ≤ 8) (hask : qk_askM w) {st sk hk : Nat} (hs : st < 2 ^ pn) (hhk : hk ≤ 6)
    (rows : ∀ t, t < bn → qe_row (w.1 84) (w.1 86) pn fn bn st sk (qs_or hmo pn) hk t w) (hR : qy_R fn bn 1 (qx_on (w.1 84) fn sk) (qs_kd (w.1 84)) (qe_pv (w.1 84) (w.1 86)) (qe_W (w.1 84) (w.1 86) pn fn st sk (qs_or hmo pn) hk) 0 < 1000000) :
    ∃ u, zM_goAlong w = some u ∧ (∀ c, c ≠ 89 → c ≠ 91 → c ≠ 97 → c ≠ 98 → u.1 c = w.1 c) ∧ ∀ t, t < bn → ∀ f, f < 6 → ∃ j, u.1 98 t = nI j ∧ u.1 92 (6 * (720 * t + j) + f) = nI (qw_s (qx_on (w.1 84) fn sk t) (qx_hm (w.1 84) fn st) (qy_z fn bn (qx_on (w.1 84) fn sk) (qs_kd (w.1 84)) (qe_pv (w.1 84) (w.1 86)) (qe_W (w.1 84) (w.1 86) pn fn st sk (qs_or hmo pn) hk) t) f) ∧ j < 720 := by
  obtain ⟨a0, a1, a4, a6, lpn, lfn, ltn, lbn⟩ := id HA.1
  have wl : ∀ t', (qe_W (w.1 84) (w.1 86) pn fn st sk (qs_or hmo pn) hk t').length ≤ 720 := fun t' => qx_W_len HA hs hhk
  have lo := qe_least lbn a6 (wl 0) rows
  unfold qy_R at lo hR
  rcases Nat.eq_zero_or_pos bn with hz | hz
  · subst hz
    rw [if_neg (by omega)] at lo
    refine ⟨w, ?_, fun _ _ _ _ _ => rfl, fun t ht => by omega⟩
    have key : ∀ n, zM_goAlong_L7 (n + 1) (nI 0) (nI 0) w = some w := fun n => by
      simp (disch := omega) only [↓reduceIte, zM_goAlong_L7, a6, qa_ltF]
    rw [← key 999999]
    simp (disch := omega) only [zM_goAlong, lo, Option.bind_some, qa_lit]
    rfl
  · rw [if_pos hz] at lo hR
    obtain ⟨u, x1, x2, x3⟩ := qe_ga7 HA hP hask hs hhk rows hR bn am_N 0 w (by omega) (Nat.lt_of_le_of_lt lbn (by decide)) (fun _ _ _ _ _ => rfl) (fun t' ht' => by omega)
    refine ⟨u, ?_, x2, fun t ht f hf => ⟨_, x3 t ht, ?_, ?_⟩⟩
    · rw [← x1]
      simp (disch := omega) only [zM_goAlong, lo, Option.bind_some, qa_lit]
      rfl
    · obtain ⟨-, q6, i1, i2⟩ := qy_i_s hR t ht
      have l7 := wl t
      have e92 := ((rows t ht).1).2 _ _ (qy_x_s i1) f hf
      rw [← x2 92 (by omega) (by omega) (by omega) (by omega)] at e92
      exact e92
    · obtain ⟨-, q6, i1, i2⟩ := qy_i_s hR t ht
      have l7 := wl t
      omega
end
