/-! THE HEART: bound -/
def qs_any (p : Nat → Bool) : Nat → Nat → Bool
  | _, 0 => false
  | i, k + 1 => p i || qs_any p (i + 1) k
theorem qs_any_iff (p : Nat → Bool) : ∀ k i, qs_any p i k = true ↔ ∃ j, i ≤ j ∧ j < i + k ∧ p j = true
  | 0, i => ⟨fun h => (nomatch h), fun ⟨j, h1, h2, _⟩ => by omega⟩
  | k + 1, i => by
    unfold qs_any
    rw [Bool.or_eq_true, qs_any_iff p k (i + 1)]
    constructor
    · rintro (h | ⟨j, h1, h2, h3⟩)
      · exact ⟨i, by omega, by omega, h⟩
      · exact ⟨j, by omega, by omega, h3⟩
    · rintro ⟨j, h1, h2, h3⟩
      by_cases e : j = i
      · subst e; exact Or.inl h3
      · exact Or.inr ⟨j, by omega, by omega, h3⟩
theorem qs_z64 : ∀ z, z < 64 → (z = 0 ↔ ∀ k, k < 6 → z.testBit k = false) := by decide +kernel
theorem qk_askM_e {w w' : zHM} (h : qk_askM w) (e84 : w'.1 84 = w.1 84) (e86 : w'.1 86 = w.1 86) : qk_askM w' := fun s u nm hs e1 e2 hn => by
  rw [e84] at e1 ⊢
  rw [e86] at e2 ⊢
  exact h s u nm hs e1 e2 hn
section
variable {L P pn fn tn bn : Nat} {h : Nat → Nat → Int32} {w : zHM}
theorem qi_a_s {u : zHM} (HA : qi_a L P pn fn tn bn (w.1 84)) (e : qf_s w u) : qi_a L P pn fn tn bn (u.1 84) := by
  rw [e 84 (by omega) (by omega)]
  exact HA
theorem qm_boundK (HA : qi_a L P pn fn tn bn (w.1 84)) (hP : P ≤ 8) (hask : qk_askM w) {t f st c : Nat} (ht : t + 1 < bn) (hf : f < fn) (ho : qs_on (w.1 84) (t + 1) f = true) (ho' : qs_on (w.1 84) t f = true) (hs : st < 2 ^ pn) (e30 : w.1 83 30 = nI st) (K : Int32 → Int32 → Int32 → zHM → Option (Int32 × zHM)) : ∀ (k n i : Nat) (u : zHM), i + k = 6 → k < n → qf_s w u →
    ∃ u', zM_bound_L80 K n (nI c) (nI (t + 1)) (nI f) (nI 0) (nI i) u = zM_bound_J143 K (nI c) (nI (t + 1)) (nI f) (qs_b (qs_any (fun j => qs_ch (w.1 84) (w.1 86) pn st t f j && qs_ch (w.1 84) (w.1 86) pn st (t + 1) f j) i k)) u' ∧ qf_s w u'
  | 0, n + 1, i, u, hi, _, fr => by
    refine ⟨u, ?_, fr⟩
    simp (disch := omega) only [↓reduceIte, zM_bound_L80, qa_ltF, qa_lit, qs_any]
    rfl
  | k + 1, n + 1, i, u, hi, hn, fr => by
    obtain ⟨a0, a1, a4, a6, lpn, lfn, ltn, lbn⟩ := HA.1
    have h8 := qs_set_tb pn (by omega) st hs
    have e84 := fr 84 (by omega) (by omega)
    have e86 := fr 86 (by omega) (by omega)
    have eh := qm_holdOf (w := u) (st := st) (k := i) (qi_a_s HA fr) hf h8.1 (by omega) (by rw [fr 83 (by omega) (by omega)]; exact e30)
    obtain ⟨u1, c1, f1⟩ := qm_canHold (w := u) (t := t) (st := st) (k := i) (qi_a_s HA fr) hP (qk_askM_s hask fr) (by omega) hf (by rw [e84]; exact ho') hs (by omega)
    have fr1 := fr.tr f1
    have eh1 := qm_holdOf (w := u1) (st := st) (k := i) (qi_a_s HA fr1) hf h8.1 (by omega) (by rw [fr1 83 (by omega) (by omega)]; exact e30)
    have e841 := fr1 84 (by omega) (by omega)
    obtain ⟨u2, c2, f2⟩ := qm_canHold (w := u1) (t := t + 1) (st := st) (k := i) (qi_a_s HA fr1) hP (qk_askM_s hask fr1) ht hf (by rw [e841]; exact ho) hs (by omega)
    have fr2 := fr1.tr f2
    rw [e84] at eh c1
    rw [e86] at c1
    rw [e841] at eh1 c2
    rw [fr1 86 (by omega) (by omega)] at c2
    have et : nI (t + 1) - nI 1 = nI t := by rw [qa_sub (by omega), Nat.add_sub_cancel]
    unfold qs_any
    cases hc1 : qs_ch (w.1 84) (w.1 86) pn st t f i
    · rw [hc1] at c1
      obtain ⟨u', e, fr'⟩ := qm_boundK HA hP hask ht hf ho ho' hs e30 K k n (i + 1) u1 (by omega) (by omega) fr1
      refine ⟨u', ?_, fr'⟩
      simp (disch := omega) only [↓reduceIte, zM_bound_L80, qa_ltT, qa_lit, qa_eqT, eh, Option.bind_some, et, c1, qs_b0, nI_add, hc1, Bool.false_and, Bool.false_or]
      exact e
    · rw [hc1] at c1
      cases hc2 : qs_ch (w.1 84) (w.1 86) pn st (t + 1) f i
      · rw [hc2] at c2
        obtain ⟨u', e, fr'⟩ := qm_boundK HA hP hask ht hf ho ho' hs e30 K k n (i + 1) u2 (by omega) (by omega) fr2
        refine ⟨u', ?_, fr'⟩
        simp (disch := omega) only [↓reduceIte, zM_bound_L80, qa_ltT, qa_lit, qa_eqT, eh, eh1, Option.bind_some, et, c1, c2, qs_b0, nI_add, Bool.true_eq_false, hc1, hc2, Bool.and_false, Bool.false_or]
        exact e
      · rw [hc2] at c2
        refine ⟨u2, ?_, fr2⟩
        have hx : ∃ m, n = m + 1 := ⟨n - 1, by omega⟩
        obtain ⟨m, rfl⟩ := hx
        simp (disch := omega) only [↓reduceIte, zM_bound_L80, qa_ltT, qa_lit, qa_eqT, eh, eh1, Option.bind_some, et, c1, c2, qs_b0, nI_add, Bool.true_eq_false, hc1, hc2, Bool.and_true, Bool.true_or]
        by_cases h6 : i + 1 < 6
        · simp (disch := omega) only [↓reduceIte, qa_ltT, qa_eqF]
          rfl
        · simp (disch := omega) only [↓reduceIte, qa_ltF]
          rfl
theorem qm_isThere (HA : qi_a L P pn fn tn bn (w.1 84)) (hP : P ≤ 8) {t f sk : Nat} (ht : t < bn) (hf : f < fn) (hk : sk < 64) (e29 : w.1 83 29 = nI sk) : zM_isThere (nI t) (nI f) w = some (qs_b (!sk.testBit f && qs_on (w.1 84) t f)) := by
  obtain ⟨a0, a1, a4, a6, lpn, lfn, ltn, lbn⟩ := HA.1
  have ep := qm_placeOf (w := w) (t := t) (f := f) (by omega) (by omega)
  cases hb : sk.testBit f
  · rcases qi_pl HA hP ht hf with ⟨ho, hp⟩ | ⟨ho, y, hy, hp⟩
    · rw [ho]
      rw [hp] at ep
      simp (disch := omega) only [↓reduceIte, zM_isThere, a1, qa_ltT, e29, qa_31, qa_shr, qa_and1, qa_lit, qa_tb, hb, ep, Option.bind_some, qa_Nlt0]
      rfl
    · rw [ho]
      rw [hp] at ep
      simp (disch := omega) only [↓reduceIte, zM_isThere, a1, qa_ltT, e29, qa_31, qa_shr, qa_and1, qa_lit, qa_tb, hb, ep, Option.bind_some, qa_ltF]
      rfl
  · simp (disch := omega) only [↓reduceIte, zM_isThere, a1, qa_ltT, e29, qa_31, qa_shr, qa_and1, qa_lit, qa_tb, hb, Bool.true_eq_false]
    rfl
/-- what one cell adds to the bound -/
def qs_bd (a tx : Nat → Int32) (pn st t f : Nat) : Bool := qs_st a t f && !(qs_any (fun j => qs_ch a tx pn st (t - 1) f j && qs_ch a tx pn st t f j) 0 6)
theorem qo_boundR (HA : qi_a L P pn fn tn bn (w.1 84)) (hP : P ≤ 8) (hask : qk_askM w) (HS : qi_stg 0 P pn fn tn bn h (w.1 84)) (HL : qk_L (w.1 84) (w.1 86) pn fn bn h) {t st : Nat} (ht : t + 1 < bn) (hs : st < 2 ^ pn) (e30 : w.1 83 30 = nI st) (e29 : w.1 83 29 = nI 0) (K : Int32 → Int32 → Int32 → (Nat → Nat → Int32) → Option (Int32 × (Nat → Nat → Int32))) (J : Int32 → Int32 → zHM → Option (Int32 × zHM)) : ∀ (k n f c : Nat) (u : zHM), f + k = fn → k < n → qf_s w u →
    ∃ c' u', zH_bound_L43 K n (nI st) (nI c) (nI (t + 1)) (nI f) h = K (nI st) (nI c') (nI (t + 1 + 1)) h ∧ zM_bound_L38 J n (nI c) (nI (t + 1)) (nI f) u = J (nI c') (nI (t + 1 + 1)) u' ∧ qf_s w u'
  | 0, n + 1, f, c, u, hf, _, fr => by
    obtain ⟨a0, a1, a4, a6, lpn, lfn, ltn, lbn⟩ := HA.1
    have s4 := (qi_stg0 HS).1.2.2.1
    have b1 : u.1 84 1 = nI fn := by rw [fr 84 (by omega) (by omega)]; exact a1
    refine ⟨c, u, ?_, ?_, fr⟩
    · simp (disch := omega) only [↓reduceIte, ↓qa_b, qa_b, qa_lit, qa_neg1, qa_qN, nI_add, pk_mul, qa_ix, qa_cl, qa_ltT, qa_ltF, qa_eqT, qa_eqF, qa_nN, qa_Nn, qa_ltN, qa_Nlt, qa_NN, qa_ltNN, qa_sub, qa_dec, qa_dec0, qa_sub0, qa_incN, qa_31, qa_shr, qa_shl, qa_and1, va_up_self, qa_une, pk_us, pk_un, qa_up2, qa_upd2, Option.bind_some, if_true, if_false, and_true, true_and, and_self, qa_f1, qa_f2, zH_bound_L43, s4]
    · simp (disch := omega) only [↓reduceIte, ↓qa_b, qa_b, qa_lit, qa_neg1, qa_qN, nI_add, pk_mul, qa_ix, qa_cl, qa_ltT, qa_ltF, qa_eqT, qa_eqF, qa_nN, qa_Nn, qa_ltN, qa_Nlt, qa_NN, qa_ltNN, qa_sub, qa_dec, qa_dec0, qa_sub0, qa_incN, qa_31, qa_shr, qa_shl, qa_and1, va_up_self, qa_une, pk_us, pk_un, qa_up2, qa_upd2, Option.bind_some, if_true, if_false, and_true, true_and, and_self, qa_f1, qa_f2, zM_bound_L38, b1]
  | k + 1, n + 1, f, c, u, hf, hn, fr => by
    obtain ⟨a0, a1, a4, a6, lpn, lfn, ltn, lbn⟩ := HA.1
    have h8 := qs_set_tb pn (by omega) st hs
    have s4 := (qi_stg0 HS).1.2.2.1
    have e84 := fr 84 (by omega) (by omega)
    have b1 : u.1 84 1 = nI fn := by rw [e84]; exact a1
    have b29 : u.1 83 29 = nI 0 := by rw [fr 83 (by omega) (by omega)]; exact e29
    obtain ⟨k1, k2⟩ := qi_kd HA (show f < fn by omega)
    have sk := ((qi_stg0 HS).2.2.1 f (by omega)).1
    rw [k1] at sk
    have et : nI (t + 1) - nI 1 = nI t := by rw [qa_sub (by omega), Nat.add_sub_cancel]
    obtain ⟨xn1, xf1, xp1, o1, o2, o3, o4, o5, o6, o7, o8, o9⟩ := HL (t + 1) ht f (by omega)
    obtain ⟨xn2, xf2, xp2, r1, r2, r3, r4, r5, r6, r7, r8, r9⟩ := HL t (by omega) f (by omega)
    have est := qh_staysOn HA HS ht (show f < fn by omega)
    have eq1 : (decide (0 < t + 1) && (qs_on (w.1 84) (t + 1) f && qs_on (w.1 84) (t + 1 - 1) f)) = (qs_on (w.1 84) (t + 1) f && qs_on (w.1 84) t f) := by simp
    rw [eq1] at est
    have i1 := qm_isThere (w := u) (sk := 0) (qi_a_s HA fr) hP ht (show f < fn by omega) (by omega) b29
    have i2 := qm_isThere (w := u) (sk := 0) (t := t) (qi_a_s HA fr) hP (by omega) (show f < fn by omega) (by omega) b29
    rw [e84, Nat.zero_testBit, Bool.not_false, Bool.true_and] at i1 i2
    have eh := qh_holdsOf (kd := qs_kd (w.1 84) f) (st := st) (by omega) h8.1
    have go : ∀ (c1 : Nat) (u1 : zHM), qf_s w u1 → zH_bound_L43 K (n + 1) (nI st) (nI c) (nI (t + 1)) (nI f) h = zH_bound_L43 K n (nI st) (nI c1) (nI (t + 1)) (nI (f + 1)) h → zM_bound_L38 J (n + 1) (nI c) (nI (t + 1)) (nI f) u = zM_bound_L38 J n (nI c1) (nI (t + 1)) (nI (f + 1)) u1 → ∃ c' u', zH_bound_L43 K (n + 1) (nI st) (nI c) (nI (t + 1)) (nI f) h = K (nI st) (nI c') (nI (t + 1 + 1)) h ∧ zM_bound_L38 J (n + 1) (nI c) (nI (t + 1)) (nI f) u = J (nI c') (nI (t + 1 + 1)) u' ∧ qf_s w u' := fun c1 u1 fr1 x1 x2 => by
      obtain ⟨c', u', y1, y2, y3⟩ := qo_boundR HA hP hask HS HL ht hs e30 e29 K J k n (f + 1) c1 u1 (by omega) (by omega) fr1
      exact ⟨c', u', x1.trans y1, x2.trans y2, y3⟩
    cases ho : qs_on (w.1 84) (t + 1) f
    · rw [ho] at est i1
      refine go c u fr ?_ ?_
      · simp (disch := omega) only [↓reduceIte, ↓qa_b, zH_bound_L43, zL_fitting, s4, qa_ltT, qa_lit, et, pk_mul, nI_add, qa_ix, qa_cl, o2, r2, Option.bind_some, est, qs_b0, Bool.false_and]
      · simp (disch := omega) only [↓reduceIte, zM_bound_L38, b1, qa_ltT, i1, Option.bind_some, qs_b0, qa_lit, nI_add]
    · cases ho' : qs_on (w.1 84) t f
      · rw [ho, ho'] at est
        rw [ho] at i1
        rw [ho'] at i2
        refine go c u fr ?_ ?_
        · simp (disch := omega) only [↓reduceIte, ↓qa_b, zH_bound_L43, zL_fitting, s4, qa_ltT, qa_lit, et, pk_mul, nI_add, qa_ix, qa_cl, o2, r2, Option.bind_some, est, qs_b0, Bool.and_false]
        · simp (disch := omega) only [↓reduceIte, zM_bound_L38, b1, qa_ltT, i1, i2, Option.bind_some, qs_b0, Bool.true_eq_false, qa_lit, et, nI_add]
      · rw [ho, ho'] at est
        rw [ho] at i1 o8
        rw [ho'] at i2 r8
        obtain ⟨u1, ek, fr1⟩ := qm_boundK HA hP hask (c := c) ht (show f < fn by omega) ho ho' hs e30 (fun v2 v3 v4 w => zM_bound_L38 J n v2 v3 v4 w) 6 am_N 0 u (by omega) (by decide) fr
        have mkl := qs_mk_lt (qs_kd (w.1 84) f) (by omega) st h8.1
        have zl : xf1 &&& xf2 &&& qs_mk (qs_kd (w.1 84) f) st < 64 := Nat.lt_of_le_of_lt Nat.and_le_right mkl
        have zz : (xf1 &&& xf2 &&& qs_mk (qs_kd (w.1 84) f) st = 0) ↔ qs_any (fun j => qs_ch (w.1 84) (w.1 86) pn st t f j && qs_ch (w.1 84) (w.1 86) pn st (t + 1) f j) 0 6 = false := by
          rw [qs_z64 _ zl]
          constructor
          · intro H
            cases hc : qs_any (fun j => qs_ch (w.1 84) (w.1 86) pn st t f j && qs_ch (w.1 84) (w.1 86) pn st (t + 1) f j) 0 6
            · rfl
            · obtain ⟨j, _, hj, hb⟩ := (qs_any_iff _ 6 0).mp hc
              have hj6 : j < 6 := by omega
              have := H j hj6
              rw [Nat.testBit_and, Nat.testBit_and, o8 j hj6, r8 j hj6, qs_mk_tb _ (by omega) st h8.1 j hj6] at this
              unfold qs_ch at hb
              simp only [Bool.true_and, Bool.and_eq_true] at hb this
              rw [hb.1.1, hb.1.2, hb.2.2] at this
              cases this
          · intro H k hk
            rw [Nat.testBit_and, Nat.testBit_and, o8 k hk, r8 k hk, qs_mk_tb _ (by omega) st h8.1 k hk]
            cases hb : (true && qs_ft (w.1 84) (w.1 86) pn (t + 1) f k && (true && qs_ft (w.1 84) (w.1 86) pn t f k) && decide (qs_ho (qs_kd (w.1 84) f) st k ≠ 0))
            · rfl
            · simp only [Bool.true_and, Bool.and_eq_true] at hb
              have : qs_any (fun j => qs_ch (w.1 84) (w.1 86) pn st t f j && qs_ch (w.1 84) (w.1 86) pn st (t + 1) f j) 0 6 = true := (qs_any_iff _ 6 0).mpr ⟨k, by omega, by omega, by unfold qs_ch; simp only [Bool.and_eq_true]; exact ⟨⟨hb.2, hb.1.2⟩, hb.2, hb.1.1⟩⟩
              rw [H] at this
              cases this
        have sM : zM_bound_L38 J (n + 1) (nI c) (nI (t + 1)) (nI f) u = zM_bound_L80 (fun v2 v3 v4 w => zM_bound_L38 J n v2 v3 v4 w) am_N (nI c) (nI (t + 1)) (nI f) (nI 0) (nI 0) u := by
          simp (disch := omega) only [↓reduceIte, zM_bound_L38, b1, qa_ltT, i1, i2, Option.bind_some, qs_b0, Bool.true_eq_false, qa_lit, et]
        cases hany : qs_any (fun j => qs_ch (w.1 84) (w.1 86) pn st t f j && qs_ch (w.1 84) (w.1 86) pn st (t + 1) f j) 0 6
        · have z0 := zz.mpr hany
          rw [hany] at ek
          refine go (c + 1) u1 fr1 ?_ ?_
          · simp (disch := omega) only [↓reduceIte, ↓qa_b, zH_bound_L43, zL_fitting, s4, qa_ltT, qa_lit, et, pk_mul, nI_add, qa_ix, qa_cl, o2, r2, Option.bind_some, est, qs_b0, Bool.and_self, Bool.true_eq_false, sk, eh, fa_and, z0]
          · refine sM.trans (ek.trans ?_)
            simp (disch := omega) only [↓reduceIte, ↓qa_b, zM_bound_J143, qs_b0, qa_lit, nI_add]
        · have z0 : ¬ xf1 &&& xf2 &&& qs_mk (qs_kd (w.1 84) f) st = 0 := fun q => by
            have := zz.mp q
            rw [hany] at this
            cases this
          rw [hany] at ek
          refine go c u1 fr1 ?_ ?_
          · simp (disch := omega) only [↓reduceIte, ↓qa_b, zH_bound_L43, zL_fitting, s4, qa_ltT, qa_lit, et, pk_mul, nI_add, qa_ix, qa_cl, o2, r2, Option.bind_some, est, qs_b0, Bool.and_self, Bool.true_eq_false, sk, eh, fa_and, qa_eqF]
          · refine sM.trans (ek.trans ?_)
            simp (disch := omega) only [↓reduceIte, ↓qa_b, zM_bound_J143, qs_b0, Bool.true_eq_false, qa_lit, nI_add, Nat.add_zero]
theorem qo_boundT (HA : qi_a L P pn fn tn bn (w.1 84)) (hP : P ≤ 8) (hask : qk_askM w) (HS : qi_stg 0 P pn fn tn bn h (w.1 84)) (HL : qk_L (w.1 84) (w.1 86) pn fn bn h) {st : Nat} (hs : st < 2 ^ pn) (e30 : w.1 83 30 = nI st) (e29 : w.1 83 29 = nI 0) : ∀ (k n t c : Nat) (u : zHM), (t + 1 + k = bn ∨ k = 0 ∧ bn ≤ t + 1) → t ≤ 24 → k < n → qf_s w u → ∃ c' u', zH_bound_L29 n (nI st) (nI c) (nI (t + 1)) h = some (nI c', h) ∧ zM_bound_L24 n (nI c) (nI (t + 1)) u = some (nI c', u') ∧ qf_s w u'
  | 0, n + 1, t, c, u, ht, ht2, _, fr => by
    obtain ⟨a0, a1, a4, a6, lpn, lfn, ltn, lbn⟩ := HA.1
    have s13 := (qi_stg0 HS).1.2.2.2.2.2.2.2
    have b6 : u.1 84 6 = nI bn := by rw [fr 84 (by omega) (by omega)]; exact a6
    refine ⟨c, u, ?_, ?_, fr⟩
    · simp (disch := omega) only [↓reduceIte, ↓qa_b, qa_b, qa_lit, qa_neg1, qa_qN, nI_add, pk_mul, qa_ix, qa_cl, qa_ltT, qa_ltF, qa_eqT, qa_eqF, qa_nN, qa_Nn, qa_ltN, qa_Nlt, qa_NN, qa_ltNN, qa_sub, qa_dec, qa_dec0, qa_sub0, qa_incN, qa_31, qa_shr, qa_shl, qa_and1, va_up_self, qa_une, pk_us, pk_un, qa_up2, qa_upd2, Option.bind_some, if_true, if_false, and_true, true_and, and_self, qa_f1, qa_f2, zH_bound_L29, s13]
    · simp (disch := omega) only [↓reduceIte, ↓qa_b, qa_b, qa_lit, qa_neg1, qa_qN, nI_add, pk_mul, qa_ix, qa_cl, qa_ltT, qa_ltF, qa_eqT, qa_eqF, qa_nN, qa_Nn, qa_ltN, qa_Nlt, qa_NN, qa_ltNN, qa_sub, qa_dec, qa_dec0, qa_sub0, qa_incN, qa_31, qa_shr, qa_shl, qa_and1, va_up_self, qa_une, pk_us, pk_un, qa_up2, qa_upd2, Option.bind_some, if_true, if_false, and_true, true_and, and_self, qa_f1, qa_f2, zM_bound_L24, b6]
  | k + 1, n + 1, t, c, u, ht, ht2, hn, fr => by
    obtain ⟨a0, a1, a4, a6, lpn, lfn, ltn, lbn⟩ := HA.1
    have s13 := (qi_stg0 HS).1.2.2.2.2.2.2.2
    have b6 : u.1 84 6 = nI bn := by rw [fr 84 (by omega) (by omega)]; exact a6
    obtain ⟨c1, u1, e1, e2, e3⟩ := qo_boundR HA hP hask HS HL (show t + 1 < bn by omega) hs e30 e29 (fun v1 v2 v3 h => zH_bound_L29 n v1 v2 v3 h) (fun v2 v3 w => zM_bound_L24 n v2 v3 w) fn am_N 0 c u (by omega) (Nat.lt_of_le_of_lt lfn (by decide)) fr
    obtain ⟨c', u', y1, y2, y3⟩ := qo_boundT HA hP hask HS HL hs e30 e29 k n (t + 1) c1 u1 (by omega) (by omega) (by omega) e3
    refine ⟨c', u', ?_, ?_, y3⟩
    · rw [zH_bound_L29, s13]
      simp (disch := omega) only [↓reduceIte, qa_ltT, qa_lit]
      exact e1.trans y1
    · rw [zM_bound_L24, b6]
      simp (disch := omega) only [↓reduceIte, qa_ltT, qa_lit]
      exact e2.trans y2
end
/-- a call that leaves all but scratch: in the class what is learned may come, in the reference the fields of a search -/
def qi_scr (h : Nat → Nat → Int32) (w : zHM) (h' : Nat → Nat → Int32) (w' : zHM) : Prop := (∀ c, c ≤ 57 → h' c = h c) ∧ (∀ c, c = 84 ∨ c = 85 ∨ c = 86 ∨ c = 87 → w'.1 c = w.1 c) ∧ (∀ j, j ≠ 29 → j ≠ 30 → w'.1 83 j = w.1 83 j)
theorem qi_scr_core {k P pn fn tn bn pn' fn' tn' bn' tl : Nat} {h h' : Nat → Nat → Int32} {w w' : zHM} (e : qi_scr h w h' w') (H : qi_core k P pn fn tn bn pn' fn' tn' bn' tl h w) : qi_core k P pn fn tn bn pn' fn' tn' bn' tl h' w' :=
  qi_core_w ⟨e.2.2 2 (by omega) (by omega), e.2.2 5 (by omega) (by omega), e.2.2 6 (by omega) (by omega), e.2.2 7 (by omega) (by omega)⟩ ⟨e.2.1 84 (by omega), e.2.1 85 (by omega), e.2.1 86 (by omega), e.2.1 87 (by omega)⟩ (qi_core_h e.1 H)
section
variable {k P pn fn tn bn pn' fn' tn' bn' tl : Nat} {h : Nat → Nat → Int32} {w : zHM}
theorem qo_bound (H : qi_core k P pn fn tn bn pn' fn' tn' bn' tl h w) (hc : h 59 2 = nI 0 ∨ h 59 2 = nI 1 ∧ qk_L (w.1 84) (w.1 86) pn fn bn h) (v1 : Int32) : ∃ r h' w', zH_bound v1 h = some (r, h') ∧ zM_bound v1 w = some (r, w') ∧ qi_scr h w h' w' ∧ (h' 59 2 = nI 0 ∨ h' 59 2 = nI 1 ∧ qk_L (w.1 84) (w.1 86) pn fn bn h') ∧ (∀ c, 65 ≤ c → h' c = h c) := by
  obtain ⟨⟨x, hru, hx, hakH⟩, hakM⟩ := qk_ask H
  obtain ⟨⟨hP3, hP8, hP, htn⟩, HA, -, HS, -⟩ := id H
  obtain ⟨a0, a1, a4, a6, lpn, lfn, ltn, lbn⟩ := id HA.1
  have s1 := (qi_stg0 HS).1.2.1
  rcases qo_isSet lpn a0 s1 v1 with ⟨e1, e2⟩ | ⟨e1, e2, st, hs, rfl⟩
  · refine ⟨qN, h, w, ?_, ?_, ⟨fun _ _ => rfl, fun _ _ => rfl, fun _ _ _ => rfl⟩, hc, fun _ _ => rfl⟩
    · simp (disch := omega) only [↓reduceIte, ↓qa_b, qa_b, qa_lit, qa_neg1, qa_qN, nI_add, pk_mul, qa_ix, qa_cl, qa_ltT, qa_ltF, qa_eqT, qa_eqF, qa_nN, qa_Nn, qa_ltN, qa_Nlt, qa_NN, qa_ltNN, qa_sub, qa_dec, qa_dec0, qa_sub0, qa_incN, qa_31, qa_shr, qa_shl, qa_and1, va_up_self, qa_une, pk_us, pk_un, qa_up2, qa_upd2, Option.bind_some, if_true, if_false, and_true, true_and, and_self, qa_f1, qa_f2, zH_bound, e1]
    · simp (disch := omega) only [↓reduceIte, ↓qa_b, qa_b, qa_lit, qa_neg1, qa_qN, nI_add, pk_mul, qa_ix, qa_cl, qa_ltT, qa_ltF, qa_eqT, qa_eqF, qa_nN, qa_Nn, qa_ltN, qa_Nlt, qa_NN, qa_ltNN, qa_sub, qa_dec, qa_dec0, qa_sub0, qa_incN, qa_31, qa_shr, qa_shl, qa_and1, va_up_self, qa_une, pk_us, pk_un, qa_up2, qa_upd2, Option.bind_some, if_true, if_false, and_true, true_and, and_self, qa_f1, qa_f2, zM_bound, e2]
  · obtain ⟨h1, el, f1, f2, f3, HL⟩ := qk_learn HA hP8 hx HS hakH hc
    have HS1 := qi_stg_h (h' := h1) (fun c _ hc => f1 c (by omega)) HS
    have w4 : ∃ w4 : zHM, w4 = (va_up w.1 83 (upd (upd (w.1 83) 30 (nI st)) 29 (nI 0)), w.2) := ⟨_, rfl⟩
    obtain ⟨w4, ew⟩ := w4
    have e84 : w4.1 84 = w.1 84 := by rw [ew]; simp (disch := omega) only [↓reduceIte, ↓qa_b, qa_b, qa_lit, qa_neg1, qa_qN, nI_add, pk_mul, qa_ix, qa_cl, qa_ltT, qa_ltF, qa_eqT, qa_eqF, qa_nN, qa_Nn, qa_ltN, qa_Nlt, qa_NN, qa_ltNN, qa_sub, qa_dec, qa_dec0, qa_sub0, qa_incN, qa_31, qa_shr, qa_shl, qa_and1, va_up_self, qa_une, pk_us, pk_un, qa_up2, qa_upd2, Option.bind_some, if_true, if_false, and_true, true_and, and_self, qa_f1, qa_f2]
    have e86 : w4.1 86 = w.1 86 := by rw [ew]; simp (disch := omega) only [↓reduceIte, ↓qa_b, qa_b, qa_lit, qa_neg1, qa_qN, nI_add, pk_mul, qa_ix, qa_cl, qa_ltT, qa_ltF, qa_eqT, qa_eqF, qa_nN, qa_Nn, qa_ltN, qa_Nlt, qa_NN, qa_ltNN, qa_sub, qa_dec, qa_dec0, qa_sub0, qa_incN, qa_31, qa_shr, qa_shl, qa_and1, va_up_self, qa_une, pk_us, pk_un, qa_up2, qa_upd2, Option.bind_some, if_true, if_false, and_true, true_and, and_self, qa_f1, qa_f2]
    have HA4 : qi_a (100 * k) P pn fn tn bn (w4.1 84) := by rw [e84]; exact HA
    have HS4 : qi_stg 0 P pn fn tn bn h1 (w4.1 84) := by rw [e84]; exact HS1
    have HL4 : qk_L (w4.1 84) (w4.1 86) pn fn bn h1 := by rw [e84, e86]; exact HL
    obtain ⟨c', u', y1, y2, y3⟩ := qo_boundT HA4 hP8 (qk_askM_e hakM e84 e86) HS4 HL4 hs (by rw [ew]; simp (disch := omega) only [↓reduceIte, ↓qa_b, qa_b, qa_lit, qa_neg1, qa_qN, nI_add, pk_mul, qa_ix, qa_cl, qa_ltT, qa_ltF, qa_eqT, qa_eqF, qa_nN, qa_Nn, qa_ltN, qa_Nlt, qa_NN, qa_ltNN, qa_sub, qa_dec, qa_dec0, qa_sub0, qa_incN, qa_31, qa_shr, qa_shl, qa_and1, va_up_self, qa_une, pk_us, pk_un, qa_up2, qa_upd2, Option.bind_some, if_true, if_false, and_true, true_and, and_self, qa_f1, qa_f2]) (by rw [ew]; simp (disch := omega) only [↓reduceIte, ↓qa_b, qa_b, qa_lit, qa_neg1, qa_qN, nI_add, pk_mul, qa_ix, qa_cl, qa_ltT, qa_ltF, qa_eqT, qa_eqF, qa_nN, qa_Nn, qa_ltN, qa_Nlt, qa_NN, qa_ltNN, qa_sub, qa_dec, qa_dec0, qa_sub0, qa_incN, qa_31, qa_shr, qa_shl, qa_and1, va_up_self, qa_une, pk_us, pk_un, qa_up2, qa_upd2, Option.bind_some, if_true, if_false, and_true, true_and, and_self, qa_f1, qa_f2]) (bn - 1) am_N 0 0 w4 (by omega) (by omega) (Nat.lt_of_le_of_lt (show bn - 1 ≤ 24 by omega) (by decide)) (qf_s.rf w4)
    refine ⟨nI c', h1, u', ?_, ?_, ⟨fun c hc => f1 c (by omega), fun c hc => ?_, fun j j1 j2 => ?_⟩, Or.inr ⟨f3, HL⟩, f2⟩
    · simp (disch := omega) only [↓reduceIte, ↓qa_b, qa_b, qa_lit, qa_neg1, qa_qN, nI_add, pk_mul, qa_ix, qa_cl, qa_ltT, qa_ltF, qa_eqT, qa_eqF, qa_nN, qa_Nn, qa_ltN, qa_Nlt, qa_NN, qa_ltNN, qa_sub, qa_dec, qa_dec0, qa_sub0, qa_incN, qa_31, qa_shr, qa_shl, qa_and1, va_up_self, qa_une, pk_us, pk_un, qa_up2, qa_upd2, Option.bind_some, if_true, if_false, and_true, true_and, and_self, qa_f1, qa_f2, zH_bound, e1, hru, el]
      exact y1
    · simp (disch := omega) only [↓reduceIte, ↓qa_b, qa_b, qa_lit, qa_neg1, qa_qN, nI_add, pk_mul, qa_ix, qa_cl, qa_ltT, qa_ltF, qa_eqT, qa_eqF, qa_nN, qa_Nn, qa_ltN, qa_Nlt, qa_NN, qa_ltNN, qa_sub, qa_dec, qa_dec0, qa_sub0, qa_incN, qa_31, qa_shr, qa_shl, qa_and1, va_up_self, qa_une, pk_us, pk_un, qa_up2, qa_upd2, Option.bind_some, if_true, if_false, and_true, true_and, and_self, qa_f1, qa_f2, zM_bound, e2, ← ew]
      exact y2
    · rw [y3 c (by omega) (by omega), ew, qa_f1, qa_une _ _ (by omega)]
    · rw [y3 83 (by omega) (by omega), ew, qa_f1, va_up_self, pk_un j1, pk_un j2]
end
