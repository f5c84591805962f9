/-! THE HEART: search: prices in the class: all of a beat, and all beats -/
def qy_x (l : List (Nat → Nat)) (j : Nat) : Nat → Nat := (l[j]?).getD (fun _ => 0)
theorem qy_x_s {l : List (Nat → Nat)} {j : Nat} (h : j < l.length) : l[j]? = some (qy_x l j) := by
  unfold qy_x
  rw [List.getElem?_eq_getElem h]
  rfl
theorem qy_x_e {l : List (Nat → Nat)} {j : Nat} {x : Nat → Nat} (h : l[j]? = some x) : j < l.length ∧ qy_x l j = x := by
  refine ⟨?_, by unfold qy_x; rw [h]; rfl⟩
  rcases Nat.lt_or_ge j l.length with q | q
  · exact q
  · rw [List.getElem?_eq_none q] at h
    cases h
theorem qy_x_m {l : List (Nat → Nat)} {j : Nat} (h : j < l.length) : qy_x l j ∈ l := List.mem_of_getElem? (qy_x_s h)
theorem qy_x_r {l : List (Nat → Nat)} {fn : Nat} (h : l.Pairwise (fun x y => qw_e x fn < qw_e y fn)) {i j : Nat} (hi : i < j) (hj : j < l.length) : qw_e (qy_x l i) fn < qw_e (qy_x l j) fn := by
  have := List.pairwise_iff_getElem.mp h i j (by omega) hj hi
  have e1 := qy_x_s (l := l) (j := i) (by omega)
  have e2 := qy_x_s hj
  rw [List.getElem?_eq_getElem (by omega)] at e1 e2
  rw [← Option.some.inj e1, ← Option.some.inj e2]
  exact this
/-- the least price from way x at beat t on; r beats lie behind t -/
def qy_T (fn c : Nat) (o : Nat → Nat → Bool) (kd : Nat → Nat) (pv : Nat → Nat → Nat → Nat → Bool) (W : Nat → List (Nat → Nat)) : Nat → Nat → (Nat → Nat) → Nat
  | 0, _, _ => 0
  | r + 1, t, x => qz_m (fun j => qy_S fn c o kd pv t x (qy_x (W (t + 1)) j) + qy_T fn c o kd pv W r (t + 1) (qy_x (W (t + 1)) j)) 1000000 0 (W (t + 1)).length
/-- the least of a beat -/
def qy_M (fn bn c : Nat) (o : Nat → Nat → Bool) (kd : Nat → Nat) (pv : Nat → Nat → Nat → Nat → Bool) (W : Nat → List (Nat → Nat)) (t : Nat) : Nat := qz_m (fun j => qy_T fn c o kd pv W (bn - 1 - t) t (qy_x (W t) j)) 1000000 0 (W t).length
def qy_R (fn bn c : Nat) (o : Nat → Nat → Bool) (kd : Nat → Nat) (pv : Nat → Nat → Nat → Nat → Bool) (W : Nat → List (Nat → Nat)) (t : Nat) : Nat := if t < bn then qy_M fn bn c o kd pv W t else 0
/-- what is asked of the ways -/
def qy_W (pn fn bn : Nat) (o : Nat → Nat → Bool) (kd : Nat → Nat) (W : Nat → List (Nat → Nat)) : Prop := ∀ t, t < bn → (W t).length ≤ 720 ∧ (∀ x ∈ W t, qy_w pn fn (o t) kd x) ∧ (W t).Pairwise (fun x y => qw_e x fn < qw_e y fn)
/-- a beat that is laid and priced -/
def qy_row (fn bn c : Nat) (o : Nat → Nat → Bool) (kd : Nat → Nat) (pv : Nat → Nat → Nat → Nat → Bool) (W : Nat → List (Nat → Nat)) (t : Nat) (h : Nat → Nat → Int32) : Prop := h 73 t = nI (W t).length ∧ (∀ i, i < (W t).length → h 71 (t * 720 + i) = nI (qw_e (qy_x (W t) i) fn) ∧ h 72 (t * 720 + i) = nI (qy_T fn c o kd pv W (bn - 1 - t) t (qy_x (W t) i))) ∧ h 74 t = nI (qy_M fn bn c o kd pv W t)
def qy_f (t : Nat) (h v : Nat → Nat → Int32) : Prop := (∀ c, c ≠ 72 → c ≠ 74 → v c = h c) ∧ (∀ j, j < t * 720 ∨ t * 720 + 720 ≤ j → v 72 j = h 72 j) ∧ ∀ j, j ≠ t → v 74 j = h 74 j
section
variable {pn fn bn c t : Nat} {o : Nat → Nat → Bool} {kd : Nat → Nat} {pv : Nat → Nat → Nat → Nat → Bool} {W : Nat → List (Nat → Nat)} {h : Nat → Nat → Int32}
theorem qy_T_le (r t : Nat) (x : Nat → Nat) : qy_T fn c o kd pv W r t x ≤ 1000000 := by
  cases r
  · exact Nat.zero_le _
  · exact (qz_m_le _ _ _ _).1
theorem qy_M_le (t : Nat) : qy_M fn bn c o kd pv W t ≤ 1000000 := (qz_m_le _ _ _ _).1
theorem qy_M_dn {t : Nat} (ht : t + 1 < bn) (hM : qy_M fn bn c o kd pv W (t + 1) = 1000000) : qy_M fn bn c o kd pv W t = 1000000 := by
  have T1 : ∀ j, j < (W (t + 1)).length → 1000000 ≤ qy_T fn c o kd pv W (bn - 1 - (t + 1)) (t + 1) (qy_x (W (t + 1)) j) := fun j hj => by
    have := (qz_m_le (fun j => qy_T fn c o kd pv W (bn - 1 - (t + 1)) (t + 1) (qy_x (W (t + 1)) j)) (W (t + 1)).length 1000000 0).2.1 j (by omega) (by omega)
    unfold qy_M at hM
    rw [hM] at this
    exact this
  have T0 : ∀ x, qy_T fn c o kd pv W (bn - 1 - t) t x = 1000000 := fun x => by
    rw [show bn - 1 - t = (bn - 1 - (t + 1)) + 1 by omega]
    exact qz_m_eq (Nat.le_refl _) (fun i hi => by have := T1 i hi; omega) (Or.inl rfl)
  exact qz_m_eq (Nat.le_refl _) (fun i hi => by rw [T0]; exact Nat.le_refl _) (Or.inl rfl)
theorem qy_M_dd {a : Nat} : ∀ d, a + d < bn → qy_M fn bn c o kd pv W (a + d) = 1000000 → qy_M fn bn c o kd pv W a = 1000000
  | 0, _, h => h
  | d + 1, hd, h => qy_M_dd d (by omega) (qy_M_dn (t := a + d) hd h)
theorem qy_allL {m vl : Nat} {V : Nat → Nat} {fl st : Int32} (ht : t < 24) (hm : m ≤ 720) (hv : vl ≤ 1) (e73 : h 73 t = nI m) (hV : ∀ i, i < m → V i ≤ 1000000) (h1 : vl = 1 → ∀ i, i < m → V i = 0) (h0 : vl = 0 → ∀ h', qy_f t h h' → ∀ i, i < m → zS_priceOnward (nI (t + 1)) (h' 71 (t * 720 + i)) st fl h' = some (nI (V i))) :
    ∀ (k n i : Nat) (h' : Nat → Nat → Int32), i + k = m → k < n → qy_f t h h' → (∀ j, j < i → h' 72 (t * 720 + j) = nI (V j)) → h' 74 t = nI (qz_m V 1000000 0 i) → ∃ h'', zS_priceAll_L87 n (nI t) (nI (t * 720)) (nI vl) st fl (nI (t * 720 + i)) h' = some h'' ∧ qy_f t h h'' ∧ (∀ j, j < m → h'' 72 (t * 720 + j) = nI (V j)) ∧ h'' 74 t = nI (qz_m V 1000000 0 m)
  | 0, n + 1, i, h', hi, _, hf, h2, h4 => by
    have : i = m := by omega
    subst this
    have e := hf.1 73 (by omega) (by omega)
    refine ⟨h', ?_, hf, h2, h4⟩
    simp (disch := omega) only [↓reduceIte, zS_priceAll_L87, qa_ix, qa_cl, e, e73, nI_add, qa_ltF]
  | k + 1, n + 1, i, h', hi, hn, hf, h2, h4 => by
    have e := hf.1 73 (by omega) (by omega)
    have vi := hV i (by omega)
    have qm := (qz_m_le V i 1000000 0).1
    have sn := qz_m_snoc V i 1000000 0
    rw [Nat.zero_add] at sn
    generalize hv' : va_up (va_up h' 72 (upd (h' 72) (t * 720 + i) (nI (V i)))) 74 (upd (h' 74) t (nI (qz_m V 1000000 0 (i + 1)))) = v
    have v0 : ∀ c, c ≠ 72 → c ≠ 74 → v c = h' c := fun c a b => by
      subst hv'
      simp (disch := omega) only [↓reduceIte, ↓qa_b, qa_b, qa_lit, qa_neg1, qa_qN, nI_add, pk_mul, qa_ix, qa_cl, qa_ltT, qa_ltF, qa_eqT, qa_eqF, qa_nN, qa_Nn, qa_ltN, qa_Nlt, qa_NN, qa_ltNN, qa_sub, qa_dec, qa_dec0, qa_sub0, qa_incN, qa_31, qa_shr, qa_shl, qa_and1, va_up_self, qa_une, pk_us, pk_un, qa_up2, qa_upd2, Option.bind_some, if_true, if_false, and_true, true_and, and_self, qa_f1, qa_f2]
    have v72 : v 72 = upd (h' 72) (t * 720 + i) (nI (V i)) := by
      subst hv'
      simp (disch := omega) only [↓reduceIte, ↓qa_b, qa_b, qa_lit, qa_neg1, qa_qN, nI_add, pk_mul, qa_ix, qa_cl, qa_ltT, qa_ltF, qa_eqT, qa_eqF, qa_nN, qa_Nn, qa_ltN, qa_Nlt, qa_NN, qa_ltNN, qa_sub, qa_dec, qa_dec0, qa_sub0, qa_incN, qa_31, qa_shr, qa_shl, qa_and1, va_up_self, qa_une, pk_us, pk_un, qa_up2, qa_upd2, Option.bind_some, if_true, if_false, and_true, true_and, and_self, qa_f1, qa_f2]
    have v74 : v 74 = upd (h' 74) t (nI (qz_m V 1000000 0 (i + 1))) := by
      subst hv'
      simp (disch := omega) only [↓reduceIte, ↓qa_b, qa_b, qa_lit, qa_neg1, qa_qN, nI_add, pk_mul, qa_ix, qa_cl, qa_ltT, qa_ltF, qa_eqT, qa_eqF, qa_nN, qa_Nn, qa_ltN, qa_Nlt, qa_NN, qa_ltNN, qa_sub, qa_dec, qa_dec0, qa_sub0, qa_incN, qa_31, qa_shr, qa_shl, qa_and1, va_up_self, qa_une, pk_us, pk_un, qa_up2, qa_upd2, Option.bind_some, if_true, if_false, and_true, true_and, and_self, qa_f1, qa_f2]
    obtain ⟨h'', g1, g2, g3, g4⟩ := qy_allL ht hm hv e73 hV h1 h0 k n (i + 1) v (by omega) (by omega) ⟨fun c a b => by rw [v0 c a b, hf.1 c a b], fun j hj => by rw [v72, pk_un (by omega), hf.2.1 j hj], fun j hj => by rw [v74, pk_un (by omega), hf.2.2 j hj]⟩ (fun j hj => by
      rw [v72]
      by_cases q : j = i
      · subst q
        rw [pk_us]
      · rw [pk_un (by omega)]
        exact h2 j (by omega)) (by rw [v74, pk_us])
    refine ⟨h'', ?_, g2, g3, g4⟩
    rw [← g1]
    have fin : zS_priceAll_J132 (fun v1 v2 v3 v4 v5 v6 h => zS_priceAll_L87 n v1 v2 v3 v4 v5 v6 h) (nI t) (nI (t * 720)) (nI vl) st fl (nI (t * 720 + i)) (nI (t * 720 + i)) (nI (V i)) h' = zS_priceAll_L87 n (nI t) (nI (t * 720)) (nI vl) st fl (nI (t * 720 + (i + 1))) v := by
      rw [← hv', sn]
      by_cases q : V i < qz_m V 1000000 0 i
      · rw [show min (qz_m V 1000000 0 i) (V i) = V i by omega]
        simp (disch := omega) only [↓reduceIte, ↓qa_b, zS_priceAll_J132, zD_min, qa_ix, qa_cl, va_up_self, qa_une, pk_us, h4, qa_ltT, nI_add, qa_lit, Nat.add_assoc]
      · rw [show min (qz_m V 1000000 0 i) (V i) = qz_m V 1000000 0 i by omega]
        simp (disch := omega) only [↓reduceIte, ↓qa_b, zS_priceAll_J132, zD_min, qa_ix, qa_cl, va_up_self, qa_une, pk_us, h4, qa_ltF, nI_add, qa_lit, Nat.add_assoc]
    rw [← fin]
    rcases (show vl = 0 ∨ vl = 1 by omega) with q | q
    · have r := h0 q h' hf i (by omega)
      rw [q]
      simp (disch := omega) only [↓reduceIte, zS_priceAll_L87, qa_ix, qa_cl, e, e73, nI_add, qa_ltT, qa_lit, r, Option.bind_some]
    · have r := h1 q i (by omega)
      rw [q, r]
      simp (disch := omega) only [↓reduceIte, zS_priceAll_L87, qa_ix, qa_cl, e, e73, nI_add, qa_ltT, qa_lit, qa_eqF]
theorem qy_all (H : qy_L pn fn bn c o kd pv h) (hW : qy_W pn fn bn o kd W) (ht : t < bn) (r0 : qh_rows fn t h (W t)) (rn : t + 1 < bn → qy_row fn bn c o kd pv W (t + 1) h) : ∃ h', zS_priceAll (nI t) h = some h' ∧ qy_f t h h' ∧ qy_row fn bn c o kd pv W t h' := by
  obtain ⟨⟨l1, l2, l3, l4⟩, ⟨e0, e1, e2⟩, -⟩ := id H
  obtain ⟨w1, w2, w3⟩ := hW t ht
  generalize hv : va_up h 74 (upd (h 74) t (nI 1000000)) = v
  have v0 : ∀ c, c ≠ 74 → v c = h c := fun c a => by
    subst hv
    simp (disch := omega) only [↓reduceIte, ↓qa_b, qa_b, qa_lit, qa_neg1, qa_qN, nI_add, pk_mul, qa_ix, qa_cl, qa_ltT, qa_ltF, qa_eqT, qa_eqF, qa_nN, qa_Nn, qa_ltN, qa_Nlt, qa_NN, qa_ltNN, qa_sub, qa_dec, qa_dec0, qa_sub0, qa_incN, qa_31, qa_shr, qa_shl, qa_and1, va_up_self, qa_une, pk_us, pk_un, qa_up2, qa_upd2, Option.bind_some, if_true, if_false, and_true, true_and, and_self, qa_f1, qa_f2]
  have v74 : v 74 = upd (h 74) t (nI 1000000) := by
    subst hv
    simp (disch := omega) only [↓reduceIte, ↓qa_b, qa_b, qa_lit, qa_neg1, qa_qN, nI_add, pk_mul, qa_ix, qa_cl, qa_ltT, qa_ltF, qa_eqT, qa_eqF, qa_nN, qa_Nn, qa_ltN, qa_Nlt, qa_NN, qa_ltNN, qa_sub, qa_dec, qa_dec0, qa_sub0, qa_incN, qa_31, qa_shr, qa_shl, qa_and1, va_up_self, qa_une, pk_us, pk_un, qa_up2, qa_upd2, Option.bind_some, if_true, if_false, and_true, true_and, and_self, qa_f1, qa_f2]
  have fv : qy_f t h v := ⟨fun c a b => v0 c b, fun j _ => by rw [v0 72 (by omega)], fun j hj => by rw [v74, pk_un (by omega)]⟩
  have z4 : v 74 t = nI (qz_m (fun j => qy_T fn c o kd pv W (bn - 1 - t) t (qy_x (W t) j)) 1000000 0 0) := by rw [v74, pk_us]; rfl
  by_cases hb : t + 1 < bn
  · obtain ⟨n1, n2, n3⟩ := rn hb
    obtain ⟨y1, y2, y3⟩ := hW (t + 1) hb
    have es := qy_st H hb
    have ec := qy_sc H hb
    obtain ⟨same, hsame⟩ : ∃ s, s = qs_all (fun g => o t g == o (t + 1) g) 0 fn := ⟨_, rfl⟩
    rw [← hsame] at ec
    have eM := qy_M_le (fn := fn) (bn := bn) (c := c) (o := o) (kd := kd) (pv := pv) (W := W) (t + 1)
    obtain ⟨h'', g1, g2, g3, g4⟩ := qy_allL (t := t) (h := h) (m := (W t).length) (vl := 0) (V := fun j => qy_T fn c o kd pv W (bn - 1 - t) t (qy_x (W t) j)) (fl := nI (qy_M fn bn c o kd pv W (t + 1) + (if same then c else 0))) (st := nI (qw_e (qz_st (o t) (o (t + 1))) fn)) (by omega) w1 (by omega) r0.1 (fun i _ => qy_T_le _ _ _) (fun q => by omega) (fun _ h' hf i hi => by
      have p71 := hf.1 71 (by omega) (by omega)
      have xe := r0.2 i _ (qy_x_s hi)
      have xw := w2 _ (qy_x_m hi)
      have H' := qy_L_h (h' := h') (fun c a b => hf.1 c (by omega) (by omega)) H
      rw [p71, xe, show bn - 1 - t = (bn - 1 - (t + 1)) + 1 by omega]
      exact qy_on (c := c) (same := same) (E := fun j => qw_e (qy_x (W (t + 1)) j) fn) (T := fun j => qy_T fn c o kd pv W (bn - 1 - (t + 1)) (t + 1) (qy_x (W (t + 1)) j)) (S := fun j => qy_S fn c o kd pv t (qy_x (W t) i) (qy_x (W (t + 1)) j)) (by omega) (by omega) y1 l4 (qz_eb6 (fun g => Nat.lt_trans (xw.1 g) (by decide)) l2) rfl (by rw [hf.1 73 (by omega) (by omega)]; exact n1) (fun j hj => by
        rw [p71]
        exact ⟨(n2 j hj).1, qz_eb6 (fun g => Nat.lt_trans ((y2 _ (qy_x_m hj)).1 g) (by decide)) l2⟩) (fun i j a b => qy_x_r y3 a b) (fun j hj => by
        rw [hf.2.1 _ (by omega)]
        exact ⟨(n2 j hj).2, qy_T_le _ _ _⟩) (fun j hj => ⟨qy_sw H' hb xw (y2 _ (qy_x_m hj)), qy_S_le l2 l4 _ _⟩) (fun j hj e => qy_S0 xw (y2 _ (qy_x_m hj)) e) (fun j hj e q => qy_S1 l4 xw (y2 _ (qy_x_m hj)) (fun g hg => by
          rw [hsame] at e
          have := qs_all_of e g hg
          exact eq_of_beq this) q)) (W t).length am_N 0 v (by omega) (Nat.lt_of_le_of_lt w1 (by decide)) fv (fun j hj => by omega) z4
    refine ⟨h'', ?_, g2, ?_, fun i hi => ⟨?_, g3 i hi⟩, g4⟩
    · rw [← g1, ← hv, Nat.add_zero]
      cases same
      · rw [if_neg (by decide), Nat.add_zero]
        simp (disch := omega) only [↓reduceIte, ↓qa_b, zS_priceAll, zS_priceAll_J21, zS_priceAll_J37, zS_priceAll_J73, zS_priceAll_J74, qa_lit, pk_mul, nI_add, e1, qa_ltT, es, ec, Option.bind_some, qs_b0, n3, qa_ix, qa_cl, Nat.add_zero]
      · rw [if_pos rfl]
        simp (disch := omega) only [↓reduceIte, ↓qa_b, zS_priceAll, zS_priceAll_J21, zS_priceAll_J37, zS_priceAll_J73, zS_priceAll_J74, qa_lit, pk_mul, nI_add, e1, e0, qa_ltT, es, ec, Option.bind_some, qs_b0, Bool.true_eq_false, n3, qa_ix, qa_cl, Nat.add_zero]
    · rw [g2.1 73 (by omega) (by omega)]
      exact r0.1
    · rw [g2.1 71 (by omega) (by omega)]
      exact r0.2 i _ (qy_x_s hi)
  · obtain ⟨h'', g1, g2, g3, g4⟩ := qy_allL (t := t) (h := h) (m := (W t).length) (vl := 1) (V := fun j => qy_T fn c o kd pv W (bn - 1 - t) t (qy_x (W t) j)) (fl := nI 0) (st := nI 0) (by omega) w1 (by omega) r0.1 (fun i _ => qy_T_le _ _ _) (fun _ i _ => by rw [show bn - 1 - t = 0 by omega]; rfl) (fun q => by omega) (W t).length am_N 0 v (by omega) (Nat.lt_of_le_of_lt w1 (by decide)) fv (fun j hj => by omega) z4
    refine ⟨h'', ?_, g2, ?_, fun i hi => ⟨?_, g3 i hi⟩, g4⟩
    · rw [← g1, ← hv, Nat.add_zero]
      simp (disch := omega) only [↓reduceIte, ↓qa_b, zS_priceAll, zS_priceAll_J21, zS_priceAll_J37, zS_priceAll_J73, zS_priceAll_J74, qa_lit, pk_mul, nI_add, e1, qa_ltF, qa_eqF, qa_ix, qa_cl]
    · rw [g2.1 73 (by omega) (by omega)]
      exact r0.1
    · rw [g2.1 71 (by omega) (by omega)]
      exact r0.2 i _ (qy_x_s hi)
end
