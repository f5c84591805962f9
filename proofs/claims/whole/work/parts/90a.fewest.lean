/-! THE HEART: fewest, and what the class remembers -/
def qe_R (a tx : Nat → Int32) (pn fn bn st sk : Nat) (or : Nat → Nat) (hk c b : Nat) : Nat := qy_R fn bn c (qx_on a fn sk) (qs_kd a) (qe_pv a tx) (qe_W a tx pn fn st sk or hk) b
def qe_P (a tx : Nat → Int32) (pn fn bn st : Nat) (or : Nat → Nat) (hk t g : Nat) : Nat := qw_s (qx_on a fn 0 t) (qx_hm a fn st) (qy_z fn bn (qx_on a fn 0) (qs_kd a) (qe_pv a tx) (qe_W a tx pn fn st 0 or hk) t) g
theorem qe_R_c {a a' tx tx' : Nat → Int32} (e : qc_e a a' tx tx') {pn fn bn st sk hk c b : Nat} {or : Nat → Nat} (hf : fn ≤ 6) (hb : bn ≤ 24) : qe_R a' tx' pn fn bn st sk or hk c b = qe_R a tx pn fn bn st sk or hk c b := qc_R (qc_aa e hf hb) b
theorem qe_P_c {a a' tx tx' : Nat → Int32} (e : qc_e a a' tx tx') {pn fn bn st hk t : Nat} {or : Nat → Nat} (hf : fn ≤ 6) (hb : bn ≤ 24) (ht : t < bn) (g : Nat) : qe_P a' tx' pn fn bn st or hk t g = qe_P a tx pn fn bn st or hk t g := by
  have C := qc_aa (tx := tx) (tx' := tx') (pn := pn) (st := st) (sk := 0) (hk := hk) (or := or) e hf hb
  unfold qe_P qy_z
  rw [(C.1 t ht).1, (C.1 t ht).2, qc_i C t ht, qc_hm e hf]
/-- the plan that the class remembers for set j -/
def qi_pc (pn fn bn : Nat) (a tx : Nat → Int32) (or : Nat → Nat) (hk : Nat) (h : Nat → Nat → Int32) (j : Nat) : Prop := h 77 j = nI 0 ∨ (h 77 j = nI 1 ∧ h 78 j = (if qe_R a tx pn fn bn j 0 or hk 1 0 < 1000000 then nI (qe_R a tx pn fn bn j 0 or hk 1 0) else qN) ∧ (qe_R a tx pn fn bn j 0 or hk 1 0 < 1000000 → ∀ t, t < bn → ∀ g, g < 6 → h 79 (j * 144 + (t * 6 + g)) = nI (qe_P a tx pn fn bn j or hk t g)))
theorem qi_pc_c {pn fn bn : Nat} {a a' tx tx' : Nat → Int32} {or : Nat → Nat} {hk : Nat} {h h' : Nat → Nat → Int32} {j : Nat} (e : qc_e a a' tx tx') (hf : fn ≤ 6) (hb : bn ≤ 24) (e7 : h' 77 j = h 77 j ∧ h' 78 j = h 78 j) (e9 : ∀ i, j * 144 ≤ i → i < j * 144 + 144 → h' 79 i = h 79 i) (H : qi_pc pn fn bn a tx or hk h j) : qi_pc pn fn bn a' tx' or hk h' j := by
  unfold qi_pc at H ⊢
  rw [e7.1, e7.2, qe_R_c e hf hb]
  rcases H with H | ⟨H1, H2, H3⟩
  · exact Or.inl H
  · refine Or.inr ⟨H1, H2, fun q t ht g hg => ?_⟩
    rw [e9 _ (by omega) (by omega), qe_P_c e hf hb ht]
    exact H3 q t ht g hg
section
variable {k P pn fn tn bn pn' fn' tn' bn' tl : Nat} {h : Nat → Nat → Int32} {w : zHM} {hmo : Nat → Nat} {hk : Nat}
/-- what the reference has when it has reckoned for set st -/
theorem qm_fewest (HA : qi_a (100 * k) P pn fn tn bn (w.1 84)) (hP : P ≤ 8) (hask : qk_askM w) (e2 : ∀ p, p < pn → w.1 84 (10 + 2 * p) = nI (hmo p) ∧ hmo p < 8) (eh : w.1 84 2 = nI hk) (hhk : hk ≤ 6) {st : Nat} (hs : st < 2 ^ pn) (es : zM_isSet (nI st) w = nI 1) : ∃ u, zM_fewest (nI st) w = some ((if qe_R (w.1 84) (w.1 86) pn fn bn st 0 (qs_or hmo pn) hk 1 0 < 1000000 then nI (qe_R (w.1 84) (w.1 86) pn fn bn st 0 (qs_or hmo pn) hk 1 0) else qN), u) ∧ (∀ c, c ≠ 83 → c ≠ 89 → c ≠ 91 → c < 92 ∨ 97 < c → u.1 c = w.1 c) ∧ (∀ j, j ≠ 29 → j ≠ 30 → u.1 83 j = w.1 83 j) ∧ ∀ t, t < bn → qe_row (w.1 84) (w.1 86) pn fn bn st 0 (qs_or hmo pn) hk t u := by
  obtain ⟨a0, a1, a4, a6, lpn, lfn, ltn, lbn⟩ := id HA.1
  obtain ⟨u, x1, x2, x3, x4⟩ := qm_reckon (hmo := hmo) (st := st) (sk := 0) (hk := hk) (b := 0) HA hP hask e2 hs (by omega) eh hhk (Nat.zero_le _)
  have lo := qe_least (w := u) (pn := pn) (fn := fn) (st := st) (sk := 0) (hk := hk) (a := w.1 84) (tx := w.1 86) (or := qs_or hmo pn) lbn (by rw [x2 84 (by omega) (by omega) (by omega) (by omega)]; exact a6) (qx_W_len HA hs hhk) (fun t ht => x4 t (by omega) ht)
  refine ⟨u, ?_, x2, x3, fun t ht => x4 t (by omega) ht⟩
  have lr : qe_R (w.1 84) (w.1 86) pn fn bn st 0 (qs_or hmo pn) hk 1 0 ≤ 1000000 := by
    unfold qe_R qy_R
    split
    · exact qy_M_le _
    · omega
  change zM_leastOf u = some (nI (qe_R (w.1 84) (w.1 86) pn fn bn st 0 (qs_or hmo pn) hk 1 0)) at lo
  generalize qe_R (w.1 84) (w.1 86) pn fn bn st 0 (qs_or hmo pn) hk 1 0 = R at *
  by_cases q : R < 1000000
  · rw [if_pos q]
    simp (disch := omega) only [↓reduceIte, ↓qa_b, zM_fewest, es, qa_lit, qa_eqF, x1, lo, Option.bind_some, qa_ltT]
  · rw [if_neg q]
    simp (disch := omega) only [↓reduceIte, ↓qa_b, zM_fewest, es, qa_lit, qa_eqF, x1, lo, Option.bind_some, qa_ltF, qa_neg1]
/-- the class finds, or remembers -/
theorem qh_fewest (H : qi_core k P pn fn tn bn pn' fn' tn' bn' tl h w) (hc : h 59 2 = nI 0 ∨ h 59 2 = nI 1 ∧ qk_L (w.1 84) (w.1 86) pn fn bn h) (e2 : ∀ p, p < pn → w.1 84 (10 + 2 * p) = nI (hmo p) ∧ hmo p < 8) (eh : w.1 84 2 = nI hk) (hhk : hk ≤ 6) {st : Nat} (hs : st < 2 ^ pn) (es : zH_isSet (nI st) h = nI 1) (hp : qi_pc pn fn bn (w.1 84) (w.1 86) (qs_or hmo pn) hk h st) : ∃ h', zH_fewest (nI st) h = some ((if qe_R (w.1 84) (w.1 86) pn fn bn st 0 (qs_or hmo pn) hk 1 0 < 1000000 then nI (qe_R (w.1 84) (w.1 86) pn fn bn st 0 (qs_or hmo pn) hk 1 0) else qN), h') ∧ (∀ c, c ≤ 58 → h' c = h c) ∧ (∀ c, 80 ≤ c → h' c = h c) ∧ (h' 59 2 = nI 0 ∨ h' 59 2 = nI 1 ∧ qk_L (w.1 84) (w.1 86) pn fn bn h') ∧ (∀ j, j ≠ st → h' 77 j = h 77 j ∧ h' 78 j = h 78 j) ∧ (∀ i, i < st * 144 ∨ st * 144 + 144 ≤ i → h' 79 i = h 79 i) ∧ h' 77 st = nI 1 ∧ qi_pc pn fn bn (w.1 84) (w.1 86) (qs_or hmo pn) hk h' st := by
  obtain ⟨⟨x, hru, hx, hakH⟩, hakM⟩ := qk_ask H
  obtain ⟨⟨hP3, hP8, hP, htn⟩, HA, -, HS, -⟩ := id H
  obtain ⟨a0, a1, a4, a6, lpn, lfn, ltn, lbn⟩ := id HA.1
  have h8 := (qs_set_tb pn (by omega) st hs).1
  have lr : qe_R (w.1 84) (w.1 86) pn fn bn st 0 (qs_or hmo pn) hk 1 0 ≤ 1000000 := by
    unfold qe_R qy_R
    split
    · exact qy_M_le _
    · omega
  rcases id hp with p7 | ⟨p7, p8, p9⟩
  · obtain ⟨h1, el, f1, f2, f3, HL⟩ := qk_learn HA hP8 hx HS hakH hc
    have HS1 := qi_stg_h (h' := h1) (fun c _ hc => f1 c (by omega)) HS
    obtain ⟨h2, h3, y1, y2, y3, y4, y5⟩ := qy_play (st := st) (sk := 0) (c := 1) (b := 0) HA hP8 HS1 HL e2 hs (by omega) eh hhk (Nat.le_refl 1) (Nat.zero_le _)
    change zS_run (nI 0) (va_up h2 65 (upd (h2 65) 0 (nI 1))) = some (nI (qe_R (w.1 84) (w.1 86) pn fn bn st 0 (qs_or hmo pn) hk 1 0), h3) at y2
    change qe_R (w.1 84) (w.1 86) pn fn bn st 0 (qs_or hmo pn) hk 1 0 < 1000000 → _ at y5
    have HW := qe_w (bn := bn) (hmo := hmo) (tx := w.1 86) (sk := 0) HA hs hhk
    have eR : qe_R (w.1 84) (w.1 86) pn fn bn st 0 (qs_or hmo pn) hk 1 0 = qy_R fn bn 1 (qx_on (w.1 84) fn 0) (qs_kd (w.1 84)) (qe_pv (w.1 84) (w.1 86)) (qe_W (w.1 84) (w.1 86) pn fn st 0 (qs_or hmo pn) hk) 0 := rfl
    generalize hR : qe_R (w.1 84) (w.1 86) pn fn bn st 0 (qs_or hmo pn) hk 1 0 = R at *
    obtain ⟨r, hr⟩ : ∃ r, r = (if R < 1000000 then nI R else qN) := ⟨_, rfl⟩
    rw [← hr]
    generalize hv : va_up (va_up h3 77 (upd (h3 77) st (nI 1))) 78 (upd (h3 78) st r) = v
    have v0 : ∀ c, c ≠ 77 → c ≠ 78 → v c = h3 c := fun c a b => by
      subst hv
      simp (disch := omega) only [↓reduceIte, ↓qa_b, qa_b, qa_lit, qa_neg1, qa_qN, nI_add, pk_mul, qa_ix, qa_cl, qa_ltT, qa_ltF, qa_eqT, qa_eqF, qa_nN, qa_Nn, qa_ltN, qa_Nlt, qa_NN, qa_ltNN, qa_sub, qa_dec, qa_dec0, qa_sub0, qa_incN, qa_31, qa_shr, qa_shl, qa_and1, va_up_self, qa_une, pk_us, pk_un, qa_up2, qa_upd2, Option.bind_some, if_true, if_false, and_true, true_and, and_self, qa_f1, qa_f2]
    have v77 : v 77 = upd (h3 77) st (nI 1) := by
      subst hv
      simp (disch := omega) only [↓reduceIte, ↓qa_b, qa_b, qa_lit, qa_neg1, qa_qN, nI_add, pk_mul, qa_ix, qa_cl, qa_ltT, qa_ltF, qa_eqT, qa_eqF, qa_nN, qa_Nn, qa_ltN, qa_Nlt, qa_NN, qa_ltNN, qa_sub, qa_dec, qa_dec0, qa_sub0, qa_incN, qa_31, qa_shr, qa_shl, qa_and1, va_up_self, qa_une, pk_us, pk_un, qa_up2, qa_upd2, Option.bind_some, if_true, if_false, and_true, true_and, and_self, qa_f1, qa_f2]
    have v78 : v 78 = upd (h3 78) st r := by
      subst hv
      simp (disch := omega) only [↓reduceIte, ↓qa_b, qa_b, qa_lit, qa_neg1, qa_qN, nI_add, pk_mul, qa_ix, qa_cl, qa_ltT, qa_ltF, qa_eqT, qa_eqF, qa_nN, qa_Nn, qa_ltN, qa_Nlt, qa_NN, qa_ltNN, qa_sub, qa_dec, qa_dec0, qa_sub0, qa_incN, qa_31, qa_shr, qa_shl, qa_and1, va_up_self, qa_une, pk_us, pk_un, qa_up2, qa_upd2, Option.bind_some, if_true, if_false, and_true, true_and, and_self, qa_f1, qa_f2]
    have L1 : ∀ v' : Nat → Nat → Int32, v' 62 = h1 62 → v' 63 = h1 63 → v' 64 = h1 64 → qk_L (w.1 84) (w.1 86) pn fn bn v' := fun v' q1 q2 q3 t ht f hf => qk_ok_h ⟨by rw [q1], by rw [q2], by rw [q3]⟩ (HL t ht f hf)
    have run : ∀ h', (if R < 1000000 then zS_write (nI (st * 144)) v = some h' else h' = v) → h' 78 = v 78 → zH_fewest (nI st) h = some (r, h') := fun h' e e78 => by
      by_cases q : R < 1000000
      · rw [if_pos q] at e hr
        rw [← hv, hr] at e
        have e8 : h' 78 st = r := by rw [e78, v78, pk_us]
        simp (disch := omega) only [↓reduceIte, ↓qa_b, zH_fewest, zH_fewest_J100, es, qa_lit, qa_eqF, qa_ix, qa_cl, p7, hru, el, y1, y2, Option.bind_some, qa_ltT, qa_une, va_up_self, pk_mul, e, e8]
      · rw [if_neg q] at e hr
        have e8 : h' 78 st = r := by rw [e78, v78, pk_us]
        rw [e, ← hv, hr]
        simp (disch := omega) only [↓reduceIte, ↓qa_b, zH_fewest, zH_fewest_J100, es, qa_lit, qa_eqF, qa_ix, qa_cl, p7, hru, el, y1, y2, Option.bind_some, qa_ltF, qa_une, va_up_self, pk_us, qa_neg1]
    have fin : ∀ h', (∀ c, c ≠ 79 → h' c = v c) → (∀ i, i < st * 144 ∨ st * 144 + 144 ≤ i → h' 79 i = v 79 i) → (R < 1000000 → ∀ t, t < bn → ∀ g, g < 6 → h' 79 (st * 144 + (t * 6 + g)) = nI (qe_P (w.1 84) (w.1 86) pn fn bn st (qs_or hmo pn) hk t g)) → (∀ c, c ≤ 58 → h' c = h c) ∧ (∀ c, 80 ≤ c → h' c = h c) ∧ (h' 59 2 = nI 0 ∨ h' 59 2 = nI 1 ∧ qk_L (w.1 84) (w.1 86) pn fn bn h') ∧ (∀ j, j ≠ st → h' 77 j = h 77 j ∧ h' 78 j = h 78 j) ∧ (∀ i, i < st * 144 ∨ st * 144 + 144 ≤ i → h' 79 i = h 79 i) ∧ h' 77 st = nI 1 ∧ qi_pc pn fn bn (w.1 84) (w.1 86) (qs_or hmo pn) hk h' st := fun h' g1 g2 g3 => by
      have b : ∀ c, c ≠ 77 → c ≠ 78 → c ≠ 79 → c < 65 ∨ 75 < c → h' c = h1 c := fun c q1 q2 q3 q4 => by rw [g1 c q3, v0 c q1 q2, y3 c q4]
      have h77 : h' 77 st = nI 1 := by rw [g1 77 (by omega), v77, pk_us]
      refine ⟨fun c hc => by rw [b c (by omega) (by omega) (by omega) (by omega), f1 c hc], fun c hc => by rw [b c (by omega) (by omega) (by omega) (by omega), f2 c (by omega)], Or.inr ⟨by rw [b 59 (by omega) (by omega) (by omega) (by omega)]; exact f3, L1 h' (b 62 (by omega) (by omega) (by omega) (by omega)) (b 63 (by omega) (by omega) (by omega) (by omega)) (b 64 (by omega) (by omega) (by omega) (by omega))⟩, fun j hj => ⟨?_, ?_⟩, fun i hi => ?_, h77, Or.inr ⟨h77, ?_, ?_⟩⟩
      · rw [g1 77 (by omega), v77, pk_un hj, y3 77 (by omega), f2 77 (by omega)]
      · rw [g1 78 (by omega), v78, pk_un hj, y3 78 (by omega), f2 78 (by omega)]
      · rw [g2 i hi, v0 79 (by omega) (by omega), y3 79 (by omega), f2 79 (by omega)]
      · rw [hR, g1 78 (by omega), v78, pk_us]
        exact hr
      · rw [hR]
        exact g3
    by_cases q : R < 1000000
    · have Lv := qy_L_h (h' := v) (fun c _ _ => v0 c (by omega) (by omega)) y4
      obtain ⟨h6, x1, x2, x3, x4⟩ := qy_write (b := st * 144) (hm := qx_hm (w.1 84) fn st) Lv HW (fun hz => by unfold qy_R at eR; rw [if_pos hz] at eR; omega) (fun t ht => by
        unfold qy_row
        rw [v0 73 (by omega) (by omega), v0 71 (by omega) (by omega), v0 72 (by omega) (by omega), v0 74 (by omega) (by omega)]
        exact y5 q t (by omega) ht) (by omega) (fun t f hf => by unfold qx_on; rw [decide_eq_false (by omega), Bool.false_and]) (fun t ht x hx f hf ho => by
        obtain ⟨m1, m2, m3⟩ := qx_W_mem HA hs hhk hx
        obtain ⟨x6, xc⟩ := m1 f hf ho
        obtain ⟨-, k2⟩ := qi_kd HA hf
        unfold qs_ch at xc
        rw [Bool.and_eq_true, decide_eq_true_eq] at xc
        have := (qt_hands (qs_kd (w.1 84) f) (by omega) st h8 (x f) x6).resolve_left xc.1
        rw [this]
        unfold qx_hm
        rw [if_pos ⟨hf, x6⟩])
      exact ⟨h6, run h6 (by rw [if_pos q]; exact x1) (x2 78 (by omega)), fin h6 x2 x4 (fun _ => x3)⟩
    · exact ⟨v, run v (by rw [if_neg q]) rfl, fin v (fun _ _ => rfl) (fun _ _ => rfl) (fun q' => absurd q' q)⟩
  · refine ⟨h, ?_, fun _ _ => rfl, fun _ _ => rfl, hc, fun _ _ => ⟨rfl, rfl⟩, fun _ _ => rfl, p7, hp⟩
    rw [← p8]
    simp (disch := omega) only [↓reduceIte, ↓qa_b, zH_fewest, es, qa_lit, qa_eqF, qa_ix, qa_cl, p7]
end
