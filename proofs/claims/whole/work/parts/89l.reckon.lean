/-! THE HEART: search: the reference reckons -/
def qe_pv (a tx : Nat → Int32) (t f p q : Nat) : Bool := qs_on a t f && qs_law a tx 1 t f p q
def qe_W (a tx : Nat → Int32) (pn fn st sk : Nat) (or : Nat → Nat) (hk t : Nat) : List (Nat → Nat) := qx_W a tx pn fn st sk t or hk
/-- the least price from way x at beat t on, at c a swap -/
def qe_T (a tx : Nat → Int32) (pn fn bn st sk : Nat) (or : Nat → Nat) (hk c t : Nat) (x : Nat → Nat) : Nat := qy_T fn c (qx_on a fn sk) (qs_kd a) (qe_pv a tx) (qe_W a tx pn fn st sk or hk) (bn - 1 - t) t x
def qe_row (a tx : Nat → Int32) (pn fn bn st sk : Nat) (or : Nat → Nat) (hk t : Nat) (u : zHM) : Prop := qr_rows (qx_on a fn sk t) (qx_hm a fn st) t u (qe_W a tx pn fn st sk or hk t) ∧ ∀ i, i < (qe_W a tx pn fn st sk or hk t).length → u.1 94 (720 * t + i) = nI (qe_T a tx pn fn bn st sk or hk 1 t (qy_x (qe_W a tx pn fn st sk or hk t) i))
/-- what a reckoning leaves as it was -/
def qe_g (w u : zHM) : Prop := ∀ c, c ≠ 89 → c ≠ 91 → c < 92 ∨ 97 < c → u.1 c = w.1 c
def qe_f (t : Nat) (u v : zHM) : Prop := (∀ c, c ≠ 94 → v.1 c = u.1 c) ∧ ∀ j, j < 720 * t ∨ 720 * t + 720 ≤ j → v.1 94 j = u.1 94 j
theorem qe_L58 {b t m bn : Nat} {V : Nat → Nat} {u : zHM} (K : Int32 → Int32 → zHM → Option zHM) (ht : t < bn) (lbn : bn ≤ 24) (hm : m ≤ 720) (e6 : u.1 84 6 = nI bn) (e93 : u.1 93 t = nI m) (h1 : t + 1 = bn → ∀ i, i < m → V i = 0) (h0 : t + 1 < bn → ∀ u', qe_f t u u' → ∀ i, i < m → zM_leastFrom (nI t) (nI i) u' = some (nI (V i))) :
    ∀ (k n i : Nat) (u' : zHM), i + k = m → k < n → qe_f t u u' → (∀ j, j < i → u'.1 94 (720 * t + j) = nI (V j)) → ∃ v, zM_reckon_L58 K n (nI b) (nI t) (nI i) u' = K (nI b) (qr_d t) v ∧ qe_f t u v ∧ ∀ j, j < m → v.1 94 (720 * t + j) = nI (V j)
  | 0, n + 1, i, u', hi, _, hf, h2 => by
    have : i = m := by omega
    subst this
    have e := hf.1 93 (by omega)
    refine ⟨u', ?_, hf, h2⟩
    simp (disch := omega) only [↓reduceIte, ↓qa_b, zM_reckon_L58, qa_ix, qa_cl, e, e93, qa_ltF, qa_neg1, qa_qN, qa_lit, qr_dA]
  | k + 1, n + 1, i, u', hi, hn, hf, h2 => by
    have e := hf.1 93 (by omega)
    have e' := hf.1 84 (by omega)
    generalize hv : ((va_up u'.1 94 (upd (u'.1 94) (720 * t + i) (nI (V i))), u'.2) : zHM) = v
    have v0 : ∀ c, c ≠ 94 → v.1 c = u'.1 c := fun c a => by
      subst hv
      simp (disch := omega) only [↓reduceIte, ↓qa_b, qa_b, qa_lit, qa_neg1, qa_qN, nI_add, pk_mul, qa_ix, qa_cl, qa_ltT, qa_ltF, qa_eqT, qa_eqF, qa_nN, qa_Nn, qa_ltN, qa_Nlt, qa_NN, qa_ltNN, qa_sub, qa_dec, qa_dec0, qa_sub0, qa_incN, qa_31, qa_shr, qa_shl, qa_and1, va_up_self, qa_une, pk_us, pk_un, qa_up2, qa_upd2, Option.bind_some, if_true, if_false, and_true, true_and, and_self, qa_f1, qa_f2]
    have v94 : v.1 94 = upd (u'.1 94) (720 * t + i) (nI (V i)) := by
      subst hv
      simp (disch := omega) only [↓reduceIte, ↓qa_b, qa_b, qa_lit, qa_neg1, qa_qN, nI_add, pk_mul, qa_ix, qa_cl, qa_ltT, qa_ltF, qa_eqT, qa_eqF, qa_nN, qa_Nn, qa_ltN, qa_Nlt, qa_NN, qa_ltNN, qa_sub, qa_dec, qa_dec0, qa_sub0, qa_incN, qa_31, qa_shr, qa_shl, qa_and1, va_up_self, qa_une, pk_us, pk_un, qa_up2, qa_upd2, Option.bind_some, if_true, if_false, and_true, true_and, and_self, qa_f1, qa_f2]
    obtain ⟨z, g1, g2, g3⟩ := qe_L58 (b := b) K ht lbn hm e6 e93 h1 h0 k n (i + 1) v (by omega) (by omega) ⟨fun c a => by rw [v0 c a, hf.1 c a], fun j hj => by rw [v94, pk_un (by omega), hf.2 j hj]⟩ (fun j hj => by
      rw [v94]
      by_cases q : j = i
      · subst q
        rw [pk_us]
      · rw [pk_un (by omega)]
        exact h2 j (by omega))
    refine ⟨z, ?_, g2, g3⟩
    rw [← g1]
    by_cases hb : t + 1 < bn
    · have r := h0 hb u' hf i (by omega)
      rw [← hv]
      simp (disch := omega) only [↓reduceIte, ↓qa_b, zM_reckon_L58, qa_ix, qa_cl, e, e', e93, e6, qa_ltT, qa_eqF, qa_lit, nI_add, pk_mul, r, Option.bind_some]
    · have r := h1 (by omega) i (by omega)
      rw [← hv, r]
      simp (disch := omega) only [↓reduceIte, ↓qa_b, zM_reckon_L58, qa_ix, qa_cl, e, e', e93, e6, qa_ltT, qa_eqT, qa_lit, nI_add, pk_mul]
section
variable {L P pn fn tn bn : Nat} {w : zHM} {hmo : Nat → Nat}
theorem qe_w (HA : qi_a L P pn fn tn bn (w.1 84)) {tx : Nat → Int32} {st sk hk : Nat} (hs : st < 2 ^ pn) (hhk : hk ≤ 6) : qy_W pn fn bn (qx_on (w.1 84) fn sk) (qs_kd (w.1 84)) (qe_W (w.1 84) tx pn fn st sk (qs_or hmo pn) hk) := fun t ht => by
  have lpn := HA.1.2.2.2.2.1
  have h8 := qs_set_tb pn (by omega) st hs
  refine ⟨qx_W_len HA hs hhk, fun x hx => ?_, qx_W_rise⟩
  obtain ⟨m1, m2, m3⟩ := qx_W_mem HA hs hhk hx
  refine ⟨m3, fun f hf => ⟨fun ho => ?_, m2 f hf⟩⟩
  obtain ⟨x6, xc⟩ := m1 f hf ho
  obtain ⟨-, k2⟩ := qi_kd HA hf
  unfold qs_ch at xc
  rw [Bool.and_eq_true, decide_eq_true_eq] at xc
  have q2 := qs_ho_st _ (by omega) st h8.1 (x f) x6 xc.1
  exact h8.2 _ q2.2 q2.1
/-- swaps, in the reference -/
theorem qe_sw (HA : qi_a L P pn fn tn bn (w.1 84)) {u : zHM} (eu : u.1 84 = w.1 84) {tx : Nat → Int32} {t st sk hk i j : Nat} (hs : st < 2 ^ pn) (hhk : hk ≤ 6) (ht : t + 1 < bn)
    (r0 : qr_rows (qx_on (w.1 84) fn sk t) (qx_hm (w.1 84) fn st) t u (qe_W (w.1 84) tx pn fn st sk (qs_or hmo pn) hk t)) (r1 : qr_rows (qx_on (w.1 84) fn sk (t + 1)) (qx_hm (w.1 84) fn st) (t + 1) u (qe_W (w.1 84) tx pn fn st sk (qs_or hmo pn) hk (t + 1)))
    (ep : ∀ f, f < fn → ∀ p, p < 3 → ∀ q, q < 3 → u.1 97 (9 * f + 3 * p + q) = qs_b (qe_pv (w.1 84) tx (t + 1) f p q))
    (hi : i < (qe_W (w.1 84) tx pn fn st sk (qs_or hmo pn) hk t).length) (hj : j < (qe_W (w.1 84) tx pn fn st sk (qs_or hmo pn) hk (t + 1)).length) :
    zM_swapped (nI (t + 1)) (nI i) (nI j) u = some (nI (qy_S fn 1 (qx_on (w.1 84) fn sk) (qs_kd (w.1 84)) (qe_pv (w.1 84) tx) t (qy_x (qe_W (w.1 84) tx pn fn st sk (qs_or hmo pn) hk t) i) (qy_x (qe_W (w.1 84) tx pn fn st sk (qs_or hmo pn) hk (t + 1)) j))) := by
  obtain ⟨a0, a1, a4, a6, lpn, lfn, ltn, lbn⟩ := id HA.1
  have h8 := (qs_set_tb pn (by omega) st hs).1
  have l0 : (qe_W (w.1 84) tx pn fn st sk (qs_or hmo pn) hk t).length ≤ 720 := qx_W_len HA hs hhk
  have l1 : (qe_W (w.1 84) tx pn fn st sk (qs_or hmo pn) hk (t + 1)).length ≤ 720 := qx_W_len HA hs hhk
  have key : ∀ (t' i' : Nat), t' < bn → i' < (qe_W (w.1 84) tx pn fn st sk (qs_or hmo pn) hk t').length → qr_rows (qx_on (w.1 84) fn sk t') (qx_hm (w.1 84) fn st) t' u (qe_W (w.1 84) tx pn fn st sk (qs_or hmo pn) hk t') → ∀ f, f < fn → u.1 92 (6 * (720 * t' + i') + f) = nI (if qx_on (w.1 84) fn sk t' f then qs_ho (qs_kd (w.1 84) f) st (qy_x (qe_W (w.1 84) tx pn fn st sk (qs_or hmo pn) hk t') i' f) else 0) ∧ (qx_on (w.1 84) fn sk t' f = true → qy_x (qe_W (w.1 84) tx pn fn st sk (qs_or hmo pn) hk t') i' f < 6 ∧ qs_ho (qs_kd (w.1 84) f) st (qy_x (qe_W (w.1 84) tx pn fn st sk (qs_or hmo pn) hk t') i' f) ≠ 0) := fun t' i' ht' hi' r f hf => by
    obtain ⟨m1, m2, m3⟩ := qx_W_mem HA hs hhk (qy_x_m hi')
    have e := r.2 i' _ (qy_x_s hi') f (by omega)
    refine ⟨?_, fun ho => ?_⟩
    · rw [e]
      unfold qw_s qx_hm
      rw [if_pos (⟨hf, m3 f⟩ : f < fn ∧ qy_x (qe_W (w.1 84) tx pn fn st sk (qs_or hmo pn) hk t') i' f < 6)]
    · obtain ⟨x6, xc⟩ := m1 f hf ho
      unfold qs_ch at xc
      rw [Bool.and_eq_true, decide_eq_true_eq] at xc
      exact ⟨x6, xc.1⟩
  have S := qz_swL (fn := fn) (st := st) (t := t) (i := i) (j := j) (u := u) (o0 := qx_on (w.1 84) fn sk t) (o1 := qx_on (w.1 84) fn sk (t + 1)) (kd := qs_kd (w.1 84)) (ps := qe_pv (w.1 84) tx (t + 1)) lfn h8 (by rw [eu]; exact a1) (by omega) (by omega) (by omega) (fun f hf => by obtain ⟨-, k2⟩ := qi_kd HA hf; omega) (key t i (by omega) hi r0) (key (t + 1) j ht hj r1) (fun f hf _ => ep f hf) fn am_N 0 0 (by omega) (Nat.lt_of_le_of_lt lfn (by decide)) (Nat.le_refl 0)
  rw [qz_sW] at S
  exact S
theorem qe_L21 (HA : qi_a L P pn fn tn bn (w.1 84)) (hP : P ≤ 8) (hask : qk_askM w) (e2 : ∀ p, p < pn → w.1 84 (10 + 2 * p) = nI (hmo p) ∧ hmo p < 8) {st sk hk b : Nat} (hs : st < 2 ^ pn) (hsk : sk < 64) (e29 : w.1 83 29 = nI sk) (e30 : w.1 83 30 = nI st) (eh : w.1 84 2 = nI hk) (hhk : hk ≤ 6) :
    ∀ (d n : Nat) (u : zHM), b + d ≤ bn → d < n → qe_g w u → (∀ t, b + d ≤ t → t < bn → qe_row (w.1 84) (w.1 86) pn fn bn st sk (qs_or hmo pn) hk t u) → ∃ u', zM_reckon_L21 n (nI b) (qr_d (b + d)) u = some u' ∧ qe_g w u' ∧ ∀ t, b ≤ t → t < bn → qe_row (w.1 84) (w.1 86) pn fn bn st sk (qs_or hmo pn) hk t u'
  | 0, n + 1, u, hd, _, hg, hr => by
    obtain ⟨a0, a1, a4, a6, lpn, lfn, ltn, lbn⟩ := id HA.1
    refine ⟨u, ?_, hg, hr⟩
    have lt : (qr_d (b + 0) < nI b) = True := by
      unfold qr_d
      split
      · rw [qa_Nlt (by omega)]
      · rw [qa_ltT (by omega) (by omega)]
    simp (disch := omega) only [↓reduceIte, zM_reckon_L21, lt]
  | d + 1, n + 1, u, hd, hn, hg, hr => by
    obtain ⟨a0, a1, a4, a6, lpn, lfn, ltn, lbn⟩ := id HA.1
    obtain ⟨t, ht⟩ : ∃ t, t = b + d := ⟨_, rfl⟩
    rw [show b + (d + 1) = t + 1 by omega, qr_d1]
    have g84 := hg 84 (by omega) (by omega) (by omega)
    have g83 := hg 83 (by omega) (by omega) (by omega)
    have g86 := hg 86 (by omega) (by omega) (by omega)
    have wl : ∀ t', (qe_W (w.1 84) (w.1 86) pn fn st sk (qs_or hmo pn) hk t').length ≤ 720 := fun t' => qx_W_len HA hs hhk
    have asku : ∀ v : zHM, v.1 84 = w.1 84 → v.1 86 = w.1 86 → qk_askM v := fun v q1 q2 => by
      unfold qk_askM at hask ⊢
      rw [q1, q2]
      exact hask
    obtain ⟨u1, p1, p2, p3, p4⟩ := qm_ways (w := u) (by rw [g84]; exact HA) hP (asku u g84 g86) (by rw [g84]; exact e2) (show t < bn by omega) hs hsk (by rw [g83]; exact e29) (by rw [g83]; exact e30) (by rw [g84]; exact eh) hhk
    rw [g84, g86] at p4
    have q84 : u1.1 84 = w.1 84 := by rw [p2 84 (by omega) (by omega) (by omega) (by omega) (by omega) (by omega), g84]
    have q86 : u1.1 86 = w.1 86 := by rw [p2 86 (by omega) (by omega) (by omega) (by omega) (by omega) (by omega), g86]
    have row1 : ∀ t', t < t' → t' < bn → qe_row (w.1 84) (w.1 86) pn fn bn st sk (qs_or hmo pn) hk t' u1 := fun t' z1 z2 => by
      obtain ⟨r1, r2⟩ := hr t' (by omega) z2
      refine ⟨⟨?_, fun i c hc g hg => ?_⟩, fun i hi => ?_⟩
      · rw [p3.1 t' (by omega)]
        exact r1.1
      · rw [p3.2 _ (by omega)]
        exact r1.2 i c hc g hg
      · rw [p2 94 (by omega) (by omega) (by omega) (by omega) (by omega) (by omega)]
        exact r2 i hi
    have fin : ∀ u2 : zHM, qp_g u1 u2 → (t + 1 < bn → ∀ f, f < fn → ∀ p, p < 3 → ∀ q, q < 3 → u2.1 97 (9 * f + 3 * p + q) = qs_b (qe_pv (w.1 84) (w.1 86) (t + 1) f p q)) → ∃ u', zM_reckon_L58 (fun v1 v4 w => zM_reckon_L21 n v1 v4 w) am_N (nI b) (nI t) (nI 0) u2 = some u' ∧ qe_g w u' ∧ ∀ t, b ≤ t → t < bn → qe_row (w.1 84) (w.1 86) pn fn bn st sk (qs_or hmo pn) hk t u' := fun u2 y1 y2 => by
      have z84 : u2.1 84 = w.1 84 := by rw [y1 84 (by omega) (by omega) (by omega), q84]
      obtain ⟨v, x1, x2, x3⟩ := qe_L58 (b := b) (t := t) (bn := bn) (m := (qe_W (w.1 84) (w.1 86) pn fn st sk (qs_or hmo pn) hk t).length) (V := fun i => qe_T (w.1 84) (w.1 86) pn fn bn st sk (qs_or hmo pn) hk 1 t (qy_x (qe_W (w.1 84) (w.1 86) pn fn st sk (qs_or hmo pn) hk t) i)) (u := u2) (fun v1 v4 w => zM_reckon_L21 n v1 v4 w) (by omega) lbn (wl t) (by rw [z84]; exact a6) (by rw [y1 93 (by omega) (by omega) (by omega)]; exact p4.1) (fun q i _ => by
        unfold qe_T
        rw [show bn - 1 - t = 0 by omega]
        rfl) (fun q u' hf i hi => by
        have w84 : u'.1 84 = w.1 84 := by rw [hf.1 84 (by omega), z84]
        have rt : qr_rows (qx_on (w.1 84) fn sk t) (qx_hm (w.1 84) fn st) t u' (qe_W (w.1 84) (w.1 86) pn fn st sk (qs_or hmo pn) hk t) := by
          unfold qr_rows
          rw [hf.1 92 (by omega), hf.1 93 (by omega), y1 92 (by omega) (by omega) (by omega), y1 93 (by omega) (by omega) (by omega)]
          exact p4
        obtain ⟨s1, s2⟩ := row1 (t + 1) (by omega) q
        have rt1 : qr_rows (qx_on (w.1 84) fn sk (t + 1)) (qx_hm (w.1 84) fn st) (t + 1) u' (qe_W (w.1 84) (w.1 86) pn fn st sk (qs_or hmo pn) hk (t + 1)) := by
          unfold qr_rows
          rw [hf.1 92 (by omega), hf.1 93 (by omega), y1 92 (by omega) (by omega) (by omega), y1 93 (by omega) (by omega) (by omega)]
          exact s1
        have := qz_lf (t := t) (i := i) (m := (qe_W (w.1 84) (w.1 86) pn fn st sk (qs_or hmo pn) hk (t + 1)).length) (u := u') (T := fun j => qe_T (w.1 84) (w.1 86) pn fn bn st sk (qs_or hmo pn) hk 1 (t + 1) (qy_x (qe_W (w.1 84) (w.1 86) pn fn st sk (qs_or hmo pn) hk (t + 1)) j)) (sw := fun j => qy_S fn 1 (qx_on (w.1 84) fn sk) (qs_kd (w.1 84)) (qe_pv (w.1 84) (w.1 86)) t (qy_x (qe_W (w.1 84) (w.1 86) pn fn st sk (qs_or hmo pn) hk t) i) (qy_x (qe_W (w.1 84) (w.1 86) pn fn st sk (qs_or hmo pn) hk (t + 1)) j)) (by omega) (wl (t + 1)) rt1.1 (fun j hj => by
          rw [hf.2 _ (by omega), y1 94 (by omega) (by omega) (by omega)]
          exact ⟨s2 j hj, qy_T_le _ _ _⟩) (fun j hj => ⟨qe_sw HA w84 hs hhk q rt rt1 (fun f hf' p hp q' hq' => by rw [hf.1 97 (by omega)]; exact y2 q f hf' p hp q' hq') hi hj, qy_S_le lfn (Nat.le_refl 1) _ _⟩)
        rw [this]
        unfold qe_T
        rw [show bn - 1 - t = (bn - 1 - (t + 1)) + 1 by omega]
        rfl) (qe_W (w.1 84) (w.1 86) pn fn st sk (qs_or hmo pn) hk t).length am_N 0 u2 (by omega) (Nat.lt_of_le_of_lt (wl t) (by decide)) ⟨fun _ _ => rfl, fun _ _ => rfl⟩ (fun j hj => by omega)
      rw [x1, ht]
      refine qe_L21 HA hP hask e2 hs hsk e29 e30 eh hhk d n v (by omega) (by omega) (fun c z1 z2 z3 => ?_) (fun t' z1 z2 => ?_)
      · rw [x2.1 c (by omega), y1 c z1 z2 (by omega), p2 c z1 z2 (by omega) (by omega) (by omega) (by omega), hg c z1 z2 z3]
      · by_cases e : t' = t
        · rw [e]
          refine ⟨?_, x3⟩
          unfold qr_rows
          rw [x2.1 92 (by omega), x2.1 93 (by omega), y1 92 (by omega) (by omega) (by omega), y1 93 (by omega) (by omega) (by omega)]
          exact p4
        · obtain ⟨s1, s2⟩ := row1 t' (by omega) z2
          have := wl t'
          refine ⟨?_, fun i hi => ?_⟩
          · unfold qr_rows
            rw [x2.1 92 (by omega), x2.1 93 (by omega), y1 92 (by omega) (by omega) (by omega), y1 93 (by omega) (by omega) (by omega)]
            exact s1
          · rw [x2.2 _ (by omega), y1 94 (by omega) (by omega) (by omega)]
            exact s2 i hi
    have b6 : u1.1 84 6 = nI bn := by rw [q84]; exact a6
    by_cases hb : t + 1 < bn
    · obtain ⟨u2, y1, y2, y3⟩ := qm_passes (w := u1) (by rw [q84]; exact HA) hP (asku u1 q84 q86) hb
      rw [q84, q86] at y3
      obtain ⟨u', x1, x2⟩ := fin u2 y2 (fun _ => y3)
      refine ⟨u', ?_, x2⟩
      rw [← x1]
      simp (disch := omega) only [↓reduceIte, zM_reckon_L21, qa_ltF, p1, Option.bind_some, b6, qa_lit, nI_add, qa_ltT, y1]
    · obtain ⟨u', x1, x2⟩ := fin u1 (fun _ _ _ _ => rfl) (fun q => by omega)
      refine ⟨u', ?_, x2⟩
      rw [← x1]
      simp (disch := omega) only [↓reduceIte, zM_reckon_L21, qa_ltF, p1, Option.bind_some, b6, qa_lit, nI_add]
/-- the reference reckons from beat b on -/
theorem qm_reckon (HA : qi_a L P pn fn tn bn (w.1 84)) (hP : P ≤ 8) (hask : qk_askM w) (e2 : ∀ p, p < pn → w.1 84 (10 + 2 * p) = nI (hmo p) ∧ hmo p < 8) {st sk hk b : Nat} (hs : st < 2 ^ pn) (hsk : sk < 64) (eh : w.1 84 2 = nI hk) (hhk : hk ≤ 6) (hb : b ≤ bn) :
    ∃ u, zM_reckon (nI b) (nI st) (nI sk) w = some u ∧ (∀ c, c ≠ 83 → c ≠ 89 → c ≠ 91 → c < 92 ∨ 97 < c → u.1 c = w.1 c) ∧ (∀ j, j ≠ 29 → j ≠ 30 → u.1 83 j = w.1 83 j) ∧ ∀ t, b ≤ t → t < bn → qe_row (w.1 84) (w.1 86) pn fn bn st sk (qs_or hmo pn) hk t u := by
  obtain ⟨a0, a1, a4, a6, lpn, lfn, ltn, lbn⟩ := id HA.1
  generalize hv : ((va_up w.1 83 (upd (upd (w.1 83) 30 (nI st)) 29 (nI sk)), w.2) : zHM) = v
  have v0 : ∀ c, c ≠ 83 → v.1 c = w.1 c := fun c a => by
    subst hv
    simp (disch := omega) only [↓reduceIte, ↓qa_b, qa_b, qa_lit, qa_neg1, qa_qN, nI_add, pk_mul, qa_ix, qa_cl, qa_ltT, qa_ltF, qa_eqT, qa_eqF, qa_nN, qa_Nn, qa_ltN, qa_Nlt, qa_NN, qa_ltNN, qa_sub, qa_dec, qa_dec0, qa_sub0, qa_incN, qa_31, qa_shr, qa_shl, qa_and1, va_up_self, qa_une, pk_us, pk_un, qa_up2, qa_upd2, Option.bind_some, if_true, if_false, and_true, true_and, and_self, qa_f1, qa_f2]
  have v83 : v.1 83 = upd (upd (w.1 83) 30 (nI st)) 29 (nI sk) := by
    subst hv
    simp (disch := omega) only [↓reduceIte, ↓qa_b, qa_b, qa_lit, qa_neg1, qa_qN, nI_add, pk_mul, qa_ix, qa_cl, qa_ltT, qa_ltF, qa_eqT, qa_eqF, qa_nN, qa_Nn, qa_ltN, qa_Nlt, qa_NN, qa_ltNN, qa_sub, qa_dec, qa_dec0, qa_sub0, qa_incN, qa_31, qa_shr, qa_shl, qa_and1, va_up_self, qa_une, pk_us, pk_un, qa_up2, qa_upd2, Option.bind_some, if_true, if_false, and_true, true_and, and_self, qa_f1, qa_f2]
  obtain ⟨u, x1, x2, x3⟩ := qe_L21 (w := v) (hmo := hmo) (st := st) (sk := sk) (hk := hk) (b := b) (by rw [v0 84 (by omega)]; exact HA) hP (by
    unfold qk_askM at hask ⊢
    rw [v0 84 (by omega), v0 86 (by omega)]
    exact hask) (by rw [v0 84 (by omega)]; exact e2) hs hsk (by rw [v83, pk_us]) (by rw [v83, pk_un (by omega), pk_us]) (by rw [v0 84 (by omega)]; exact eh) hhk (bn - b) am_N v (by omega) (Nat.lt_of_le_of_lt (show bn - b ≤ 24 by omega) (by decide)) (fun _ _ _ _ => rfl) (fun t g1 g2 => by omega)
  rw [v0 84 (by omega), v0 86 (by omega)] at x3
  refine ⟨u, ?_, fun c c1 c2 c3 c4 => by rw [x2 c c2 c3 c4, v0 c c1], fun j j1 j2 => by rw [x2 83 (by omega) (by omega) (by omega), v83, pk_un (by omega), pk_un (by omega)], x3⟩
  rw [← x1, show b + (bn - b) = bn by omega, ← hv]
  simp (disch := omega) only [↓qa_b, zM_reckon, va_up_self, qa_une, qa_up2, a6, qa_lit, qr_dS]
end
