/-! THE HEART: search: the class's run over all beats -/
def qy_fr (h v : Nat → Nat → Int32) : Prop := ∀ c, c < 71 ∨ 75 < c → v c = h c
/-- the class lays each beat as W says -/
def qy_lay (fn bn : Nat) (W : Nat → List (Nat → Nat)) (h : Nat → Nat → Int32) : Prop := ∀ t, t < bn → ∀ h', qy_fr h h' → h' 73 t = nI 0 → ∃ h'', (zS_isRoomFor (nI t) h' = some (nI 0) ∧ h'' = h' ∨ zS_isRoomFor (nI t) h' = some (nI 1) ∧ zS_lay 8 (nI t) (nI 0) (nI 0) (nI 0) h' = some h'') ∧ qh_oth t h' h'' ∧ qh_rows fn t h'' (W t)
section
variable {pn fn bn c a : Nat} {o : Nat → Nat → Bool} {kd : Nat → Nat} {pv : Nat → Nat → Nat → Nat → Bool} {W : Nat → List (Nat → Nat)} {h : Nat → Nat → Int32}
theorem qy_runL (H : qy_L pn fn bn c o kd pv h) (hW : qy_W pn fn bn o kd W) (hl : qy_lay fn bn W h) : ∀ (d n : Nat) (h' : Nat → Nat → Int32), a + d ≤ bn → d < n → qy_fr h h' → (∀ t, a + d ≤ t → t < bn → qy_row fn bn c o kd pv W t h') → ∃ h'', zS_run_L7 n (nI a) (qr_d (a + d)) h' = some (nI (qy_R fn bn c o kd pv W a), h'') ∧ qy_fr h h'' ∧ (qy_R fn bn c o kd pv W a < 1000000 → ∀ t, a ≤ t → t < bn → qy_row fn bn c o kd pv W t h'')
  | 0, n + 1, h', hd, _, hf, hr => by
    obtain ⟨⟨l1, l2, l3, l4⟩, ⟨e0, e1, e2⟩, -⟩ := id H
    rw [← hf 65 (by omega)] at e1
    refine ⟨h', ?_, hf, fun _ => hr⟩
    have lt : (qr_d (a + 0) < nI a) = True := by
      unfold qr_d
      split
      · rw [qa_Nlt (by omega)]
      · rw [qa_ltT (by omega) (by omega)]
    by_cases hb : a < bn
    · have r := (hr a (by omega) hb).2.2
      unfold qy_R
      rw [if_pos hb]
      simp (disch := omega) only [↓reduceIte, zS_run_L7, lt, e1, qa_ltT, qa_ix, qa_cl, r]
    · unfold qy_R
      rw [if_neg hb]
      simp (disch := omega) only [↓reduceIte, zS_run_L7, lt, e1, qa_ltF, qa_lit]
  | d + 1, n + 1, h', hd, hn, hf, hr => by
    obtain ⟨⟨l1, l2, l3, l4⟩, ⟨e0, e1, e2⟩, -⟩ := id H
    obtain ⟨t, ht⟩ : ∃ t, t = a + d := ⟨_, rfl⟩
    rw [show a + (d + 1) = t + 1 by omega, qr_d1]
    generalize hv : va_up h' 73 (upd (h' 73) t (nI 0)) = v
    have v0 : ∀ c, c ≠ 73 → v c = h' c := fun c a => by
      subst hv
      simp (disch := omega) only [↓reduceIte, ↓qa_b, qa_b, qa_lit, qa_neg1, qa_qN, nI_add, pk_mul, qa_ix, qa_cl, qa_ltT, qa_ltF, qa_eqT, qa_eqF, qa_nN, qa_Nn, qa_ltN, qa_Nlt, qa_NN, qa_ltNN, qa_sub, qa_dec, qa_dec0, qa_sub0, qa_incN, qa_31, qa_shr, qa_shl, qa_and1, va_up_self, qa_une, pk_us, pk_un, qa_up2, qa_upd2, Option.bind_some, if_true, if_false, and_true, true_and, and_self, qa_f1, qa_f2]
    have v73 : v 73 = upd (h' 73) t (nI 0) := by
      subst hv
      simp (disch := omega) only [↓reduceIte, ↓qa_b, qa_b, qa_lit, qa_neg1, qa_qN, nI_add, pk_mul, qa_ix, qa_cl, qa_ltT, qa_ltF, qa_eqT, qa_eqF, qa_nN, qa_Nn, qa_ltN, qa_Nlt, qa_NN, qa_ltNN, qa_sub, qa_dec, qa_dec0, qa_sub0, qa_incN, qa_31, qa_shr, qa_shl, qa_and1, va_up_self, qa_une, pk_us, pk_un, qa_up2, qa_upd2, Option.bind_some, if_true, if_false, and_true, true_and, and_self, qa_f1, qa_f2]
    have fv : qy_fr h v := fun c hc => by rw [v0 c (by omega), hf c hc]
    obtain ⟨h1, q1, q2, q3⟩ := hl t (by omega) v fv (by rw [v73, pk_us])
    have f1 : qy_fr h h1 := fun c hc => by rw [q2.1 c (by omega) (by omega) (by omega), fv c hc]
    have H1 := qy_L_h (h' := h1) (fun c _ _ => f1 c (by omega)) H
    have rows1 : ∀ t', t < t' → t' < bn → qy_row fn bn c o kd pv W t' h1 := fun t' g1 g2 => by
      obtain ⟨z1, z2, z3⟩ := hr t' (by omega) g2
      have wl := (hW t' g2).1
      refine ⟨?_, fun i hi => ⟨?_, ?_⟩, ?_⟩
      · rw [q2.2.1 t' (by omega), v73, pk_un (by omega)]
        exact z1
      · rw [q2.2.2 _ (by omega), v0 71 (by omega)]
        exact (z2 i hi).1
      · rw [q2.1 72 (by omega) (by omega) (by omega), v0 72 (by omega)]
        exact (z2 i hi).2
      · rw [q2.1 74 (by omega) (by omega) (by omega), v0 74 (by omega)]
        exact z3
    obtain ⟨h2, p1, p2, p3⟩ := qy_all H1 hW (show t < bn by omega) q3 (fun hb => rows1 (t + 1) (by omega) hb)
    have f2 : qy_fr h h2 := fun c hc => by rw [p2.1 c (by omega) (by omega), f1 c hc]
    have lm := qy_M_le (fn := fn) (bn := bn) (c := c) (o := o) (kd := kd) (pv := pv) (W := W) t
    have p4 := p3.2.2
    have step : zS_run_L7 (n + 1) (nI a) (nI t) h' = zS_run_J35 (fun v1 v2 h => zS_run_L7 n v1 v2 h) (nI a) (nI t) h1 := by
      rcases q1 with ⟨g1, g2⟩ | ⟨g1, g2⟩
      · rw [g2]
        rw [← hv] at g1 ⊢
        simp (disch := omega) only [↓reduceIte, ↓qa_b, zS_run_L7, qa_ltF, qa_ix, qa_cl, qa_lit, g1, Option.bind_some]
      · rw [← hv] at g1 g2
        simp (disch := omega) only [↓reduceIte, ↓qa_b, zS_run_L7, qa_ltF, qa_ix, qa_cl, qa_lit, g1, g2, Option.bind_some, qa_eqF]
    rw [step]
    by_cases hM : qy_M fn bn c o kd pv W t < 1000000
    · obtain ⟨h3, x1, x2, x3⟩ := qy_runL H hW hl d n h2 (by omega) (by omega) f2 (fun t' g1 g2 => by
        by_cases e : t' = t
        · rw [e]
          exact p3
        · obtain ⟨z1, z2, z3⟩ := rows1 t' (by omega) g2
          have wl := (hW t' g2).1
          refine ⟨?_, fun i hi => ⟨?_, ?_⟩, ?_⟩
          · rw [p2.1 73 (by omega) (by omega)]
            exact z1
          · rw [p2.1 71 (by omega) (by omega)]
            exact (z2 i hi).1
          · rw [p2.2.1 _ (by omega)]
            exact (z2 i hi).2
          · rw [p2.2.2 t' (by omega)]
            exact z3)
      refine ⟨h3, ?_, x2, x3⟩
      rw [← x1, ← ht]
      simp (disch := omega) only [↓reduceIte, ↓qa_b, zS_run_J35, p1, Option.bind_some, qa_ix, qa_cl, p4, qa_lit, qa_ltT, qa_neg1, qa_qN, qr_dA]
    · have e6 : qy_R fn bn c o kd pv W a = 1000000 := by
        unfold qy_R
        rw [if_pos (by omega)]
        exact qy_M_dd d (by omega) (by rw [← ht]; omega)
      refine ⟨h2, ?_, f2, fun q => by omega⟩
      rw [e6]
      simp (disch := omega) only [↓reduceIte, ↓qa_b, zS_run_J35, p1, Option.bind_some, qa_ix, qa_cl, p4, qa_lit, qa_ltF]
/-- the class's run -/
theorem qy_run (H : qy_L pn fn bn c o kd pv h) (hW : qy_W pn fn bn o kd W) (hl : qy_lay fn bn W h) (ha : a ≤ bn) : ∃ h', zS_run (nI a) h = some (nI (qy_R fn bn c o kd pv W a), h') ∧ qy_fr h h' ∧ (qy_R fn bn c o kd pv W a < 1000000 → ∀ t, a ≤ t → t < bn → qy_row fn bn c o kd pv W t h') := by
  obtain ⟨⟨l1, l2, l3, l4⟩, ⟨e0, e1, e2⟩, -⟩ := id H
  obtain ⟨h', x1, x2⟩ := qy_runL (a := a) H hW hl (bn - a) am_N h (by omega) (Nat.lt_of_le_of_lt (show bn - a ≤ 24 by omega) (by decide)) (fun _ _ => rfl) (fun t g1 g2 => by omega)
  refine ⟨h', ?_, x2⟩
  rw [← x1, show a + (bn - a) = bn by omega]
  simp (disch := omega) only [↓qa_b, zS_run, e1, qa_lit, qr_dS]
end
