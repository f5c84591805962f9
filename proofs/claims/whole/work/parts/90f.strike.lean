/-! THE HEART: strike, in the class -/
theorem qt_tb2 : ∀ x, x < 64 → ∀ f, f < 6 → ∀ g, g < 6 → (x ||| 2 ^ f).testBit g = (x.testBit g || decide (g = f)) := by decide +kernel
theorem qt_and : ∀ s, s < 64 → ∀ A, A < 64 → s &&& A = s ∨ s &&& A < s := by decide +kernel
section
variable {L P pn fn tn bn : Nat} {w : zHM} {h : Nat → Nat → Int32} {hmo : Nat → Nat} {hk : Nat}
/-- who acts, ahead of beat t and in it ahead of figure f -/
def qk_ac (a : Nat → Int32) (fn t f x : Nat) : Prop := x < 64 ∧ ∀ g, g < 6 → x.testBit g = (decide (g < fn) && (qs_any (fun t => qs_on a t g) 0 t || (decide (g < f) && qs_on a t g)))
theorem qk_any_s (p : Nat → Bool) : ∀ (k i : Nat), qs_any p i (k + 1) = (qs_any p i k || p (i + k))
  | 0, i => by
    unfold qs_any qs_any
    rw [Bool.or_false, Bool.false_or, Nat.add_zero]
  | k + 1, i => by
    have := qk_any_s p k (i + 1)
    rw [show qs_any p i (k + 1 + 1) = (p i || qs_any p (i + 1) (k + 1)) from rfl, this, show qs_any p i (k + 1) = (p i || qs_any p (i + 1) k) from rfl, Bool.or_assoc, show i + 1 + k = i + (k + 1) by omega]
theorem qh_ac14 (HA : qi_a L P pn fn tn bn (w.1 84)) (HS : qi_stg 0 P pn fn tn bn h (w.1 84)) {t : Nat} (ht : t < bn) (K : Int32 → Int32 → (Nat → Nat → Int32) → Option Int32) : ∀ (k n f x : Nat), f + k = fn → k < n → qk_ac (w.1 84) fn t f x → ∃ x', zG_actingFigures_L14 K n (nI x) (nI t) (nI f) h = K (nI x') (nI (t + 1)) h ∧ qk_ac (w.1 84) fn (t + 1) 0 x'
  | 0, n + 1, f, x, hf, _, hx => by
    have s4 := (qi_stg0 HS).1.2.2.1
    obtain ⟨a0, a1, a4, a6, lpn, lfn, ltn, lbn⟩ := id HA.1
    have : f = fn := by omega
    subst this
    refine ⟨x, ?_, hx.1, fun g hg => ?_⟩
    · simp (disch := omega) only [↓reduceIte, zG_actingFigures_L14, s4, qa_ltF, qa_lit, nI_add]
    · rw [hx.2 g hg, qk_any_s, Nat.zero_add, decide_eq_false (show ¬ g < 0 by omega), Bool.false_and, Bool.or_false]
      cases decide (g < f)
      · rfl
      · simp only [Bool.true_and]
  | k + 1, n + 1, f, x, hf, hn, hx => by
    have s4 := (qi_stg0 HS).1.2.2.1
    obtain ⟨a0, a1, a4, a6, lpn, lfn, ltn, lbn⟩ := id HA.1
    have eo := qh_isOn HA HS ht (show f < fn by omega)
    have eL := qa_1shl (i := f) (by omega)
    cases ho : qs_on (w.1 84) t f
    · rw [ho] at eo
      obtain ⟨x', y1, y2⟩ := qh_ac14 HA HS ht K k n (f + 1) x (by omega) (by omega) ⟨hx.1, fun g hg => by
        rw [hx.2 g hg]
        by_cases q : g = f
        · subst q
          rw [ho, Bool.and_false, Bool.and_false]
        · rw [show decide (g < f + 1) = decide (g < f) from decide_eq_decide.mpr (by omega)]⟩
      refine ⟨x', ?_, y2⟩
      rw [← y1]
      simp (disch := omega) only [↓reduceIte, zG_actingFigures_L14, s4, qa_ltT, eo, Option.bind_some, qs_b0, qa_lit, nI_add]
    · rw [ho] at eo
      obtain ⟨x', y1, y2⟩ := qh_ac14 HA HS ht K k n (f + 1) (x ||| 2 ^ f) (by omega) (by omega) ⟨qt_or1 x hx.1 f (by omega), fun g hg => by
        rw [qt_tb2 x hx.1 f (by omega) g hg, hx.2 g hg]
        by_cases q : g = f
        · subst q
          rw [ho, decide_eq_true (show g < fn by omega), decide_eq_true (show g = g from rfl), decide_eq_true (show g < g + 1 by omega)]
          simp
        · rw [show decide (g < f + 1) = decide (g < f) from decide_eq_decide.mpr (by omega), decide_eq_false q, Bool.or_false]⟩
      refine ⟨x', ?_, y2⟩
      rw [← y1]
      simp (disch := omega) only [↓reduceIte, ↓qa_b, zG_actingFigures_L14, s4, qa_ltT, eo, Option.bind_some, qs_b0, Bool.true_eq_false, qa_lit, nI_add, qa_31, eL, fa_or]
theorem qh_ac4 (HA : qi_a L P pn fn tn bn (w.1 84)) (HS : qi_stg 0 P pn fn tn bn h (w.1 84)) : ∀ (k n t x : Nat), t + k = bn → k < n → qk_ac (w.1 84) fn t 0 x → ∃ x', zG_actingFigures_L4 n (nI x) (nI t) h = some (nI x') ∧ qk_ac (w.1 84) fn bn 0 x'
  | 0, n + 1, t, x, ht, _, hx => by
    have s13 := (qi_stg0 HS).1.2.2.2.2.2.2.2
    obtain ⟨a0, a1, a4, a6, lpn, lfn, ltn, lbn⟩ := id HA.1
    have : t = bn := by omega
    subst this
    refine ⟨x, ?_, hx⟩
    simp (disch := omega) only [↓reduceIte, zG_actingFigures_L4, s13, qa_ltF]
  | k + 1, n + 1, t, x, ht, hn, hx => by
    have s13 := (qi_stg0 HS).1.2.2.2.2.2.2.2
    obtain ⟨a0, a1, a4, a6, lpn, lfn, ltn, lbn⟩ := id HA.1
    obtain ⟨x1, y1, y2⟩ := qh_ac14 HA HS (show t < bn by omega) (fun v1 v2 h => zG_actingFigures_L4 n v1 v2 h) fn am_N 0 x (by omega) (Nat.lt_of_le_of_lt lfn (by decide)) hx
    obtain ⟨x2, z1, z2⟩ := qh_ac4 HA HS k n (t + 1) x1 (by omega) (by omega) y2
    refine ⟨x2, ?_, z2⟩
    rw [← z1, ← y1]
    simp (disch := omega) only [↓reduceIte, zG_actingFigures_L4, s13, qa_ltT, qa_lit]
theorem qh_ac (HA : qi_a L P pn fn tn bn (w.1 84)) (HS : qi_stg 0 P pn fn tn bn h (w.1 84)) : ∃ A, zG_actingFigures h = some (nI A) ∧ A < 64 ∧ ∀ g, g < fn → A.testBit g = qs_any (fun t => qs_on (w.1 84) t g) 0 bn := by
  obtain ⟨a0, a1, a4, a6, lpn, lfn, ltn, lbn⟩ := id HA.1
  obtain ⟨A, x1, x2, x3⟩ := qh_ac4 HA HS bn am_N 0 0 (by omega) (Nat.lt_of_le_of_lt lbn (by decide)) ⟨by omega, fun g hg => by
    rw [Nat.zero_testBit, decide_eq_false (show ¬ g < 0 by omega), Bool.false_and, Bool.or_false, show qs_any (fun t => qs_on (w.1 84) t g) 0 0 = false from rfl, Bool.and_false]⟩
  refine ⟨A, x1, x2, fun g hg => ?_⟩
  rw [x3 g (by omega), decide_eq_true hg, decide_eq_false (show ¬ g < 0 by omega), Bool.false_and, Bool.or_false, Bool.true_and]
theorem qk_any_t {p : Nat → Bool} : ∀ (k i j : Nat), i ≤ j → j < i + k → p j = true → qs_any p i k = true
  | 0, i, j, h1, h2, _ => by omega
  | k + 1, i, j, h1, h2, h3 => by
    unfold qs_any
    by_cases e : j = i
    · subst e
      rw [h3, Bool.true_or]
    · rw [qk_any_t k (i + 1) j (by omega) (by omega) h3, Bool.or_true]
/-- who doesn't act may be struck or not -/
theorem qk_fe_A {a tx : Nat → Int32} {st A s : Nat} {or : Nat → Nat} (hA : ∀ g, g < fn → A.testBit g = qs_any (fun t => qs_on a t g) 0 bn) : qk_fe a tx pn fn bn st or hk s = qk_fe a tx pn fn bn st or hk (s &&& A) := by
  have eo : ∀ t, t < bn → qx_on a fn s t = qx_on a fn (s &&& A) t := fun t ht => by
    funext f
    unfold qx_on
    by_cases hf : f < fn
    · cases ho : qs_on a t f
      · simp only [Bool.and_false]
      · have := qk_any_t (p := fun t => qs_on a t f) bn 0 t (by omega) (by omega) ho
        simp only [Nat.testBit_and, hA f hf, this, Bool.and_true]
    · rw [decide_eq_false hf, Bool.false_and, Bool.false_and]
  have C : qc_ss fn bn (qx_on a fn (s &&& A)) (qx_on a fn s) (qs_kd a) (qs_kd a) (qe_pv a tx) (qe_pv a tx) (qe_W a tx pn fn st (s &&& A) or hk) (qe_W a tx pn fn st s or hk) := ⟨fun t ht => ⟨eo t ht, by unfold qe_W qx_W; rw [eo t ht]⟩, fun _ _ => rfl, fun _ _ _ _ => rfl⟩
  unfold qk_fe qe_R
  rw [qc_R C]
theorem qh_wt (HA : qi_a L P pn fn tn bn (w.1 84)) (hL : L ≤ 100000) (HS : qi_stg 0 P pn fn tn bn h (w.1 84)) {s : Nat} (hs : s < 64) : ∀ (k n f : Nat), f + k = fn → k < n → zG_weightOf_L4 n (nI s) (nI (qk_w (w.1 84) s f)) (nI f) h = some (nI (qk_w (w.1 84) s fn))
  | 0, n + 1, f, hf, _ => by
    have s4 := (qi_stg0 HS).1.2.2.1
    obtain ⟨a0, a1, a4, a6, lpn, lfn, ltn, lbn⟩ := id HA.1
    have : f = fn := by omega
    subst this
    simp (disch := omega) only [↓reduceIte, zG_weightOf_L4, s4, qa_ltF]
  | k + 1, n + 1, f, hf, hn => by
    have s4 := (qi_stg0 HS).1.2.2.1
    obtain ⟨a0, a1, a4, a6, lpn, lfn, ltn, lbn⟩ := id HA.1
    obtain ⟨p1, p2, p3, p4⟩ := qi_wl HA hL (show f < fn by omega)
    obtain ⟨-, c5, c6, -⟩ := (qi_stg0 HS).2.2.1 f (by omega)
    rw [p1] at c5
    rw [p3] at c6
    rw [← qh_wt HA hL HS hs k n (f + 1) (by omega) (by omega)]
    rw [show qk_w (w.1 84) s (f + 1) = qk_w (w.1 84) s f + s / 2 ^ f % 2 * qv (w.1 84) (20 + 2 * f + 1) * qv (w.1 84) (34 + f) from rfl]
    generalize qv (w.1 84) (20 + 2 * f + 1) = A at *
    generalize qv (w.1 84) (34 + f) = B at *
    by_cases hb : s / 2 ^ f % 2 = 0
    · rw [hb, Nat.zero_mul, Nat.zero_mul]
      simp only [Nat.add_zero]
      simp (disch := omega) only [↓reduceIte, zG_weightOf_L4, s4, qa_ltT, qa_31, qa_shr, qa_lit, qa_and1, hb, nI_add]
    · have h1 : s / 2 ^ f % 2 = 1 := by omega
      rw [h1, Nat.one_mul]
      simp (disch := omega) only [↓reduceIte, ↓qa_b, zG_weightOf_L4, s4, qa_ltT, qa_31, qa_shr, qa_lit, qa_and1, h1, nI_add, pk_mul, qa_eqF, qa_ix, qa_cl, c5, c6]
/-- can it be acted? -/
theorem qh_can (HA : qi_a L P pn fn tn bn (w.1 84)) (hP : P ≤ 8) (HS : qi_stg 0 P pn fn tn bn h (w.1 84)) (HL : qk_L (w.1 84) (w.1 86) pn fn bn h) (e2 : ∀ p, p < pn → w.1 84 (10 + 2 * p) = nI (hmo p) ∧ hmo p < 8) {st s : Nat} (hs : st < 2 ^ pn) (hsk : s < 64) (eh : w.1 84 2 = nI hk) (hhk : hk ≤ 6) : ∃ h', zH_canBeActed (nI st) (nI s) h = some (qs_b (qk_fe (w.1 84) (w.1 86) pn fn bn st (qs_or hmo pn) hk s), h') ∧ ∀ c, c < 65 ∨ 75 < c → h' c = h c := by
  obtain ⟨a0, a1, a4, a6, lpn, lfn, ltn, lbn⟩ := id HA.1
  obtain ⟨h1, h2, y1, y2, y3, -, -⟩ := qy_play (st := st) (sk := s) (c := 0) (b := 0) HA hP HS HL e2 hs hsk eh hhk (Nat.zero_le 1) (Nat.zero_le _)
  refine ⟨h2, ?_, y3⟩
  have R01 := qy_R01 (fn := fn) (bn := bn) (t := 0) (o := qx_on (w.1 84) fn s) (kd := qs_kd (w.1 84)) (pv := qe_pv (w.1 84) (w.1 86)) (W := qe_W (w.1 84) (w.1 86) pn fn st s (qs_or hmo pn) hk) lfn lbn
  have lr : qy_R fn bn 0 (qx_on (w.1 84) fn s) (qs_kd (w.1 84)) (qe_pv (w.1 84) (w.1 86)) (qe_W (w.1 84) (w.1 86) pn fn st s (qs_or hmo pn) hk) 0 ≤ 1000000 := by
    unfold qy_R
    split
    · exact qy_M_le _
    · omega
  unfold qk_fe qe_R
  by_cases q : qy_R fn bn 0 (qx_on (w.1 84) fn s) (qs_kd (w.1 84)) (qe_pv (w.1 84) (w.1 86)) (qe_W (w.1 84) (w.1 86) pn fn st s (qs_or hmo pn) hk) 0 < 1000000
  · rw [decide_eq_true (R01.mp q)]
    simp (disch := omega) only [↓reduceIte, ↓qa_b, zH_canBeActed, y1, Option.bind_some, qa_lit, y2, qa_ltT]
    rfl
  · rw [decide_eq_false (fun z => q (R01.mpr z))]
    simp (disch := omega) only [↓reduceIte, ↓qa_b, zH_canBeActed, y1, Option.bind_some, qa_lit, y2, qa_ltF]
    rfl
theorem qh_strikeL (HA : qi_a L P pn fn tn bn (w.1 84)) (hL : L ≤ 100000) (hP : P ≤ 8) (HS : qi_stg 0 P pn fn tn bn h (w.1 84)) (HL : qk_L (w.1 84) (w.1 86) pn fn bn h) (e2 : ∀ p, p < pn → w.1 84 (10 + 2 * p) = nI (hmo p) ∧ hmo p < 8) {st A : Nat} (hs : st < 2 ^ pn) (eh : w.1 84 2 = nI hk) (hhk : hk ≤ 6) (hA6 : A < 64) (hA : ∀ g, g < fn → A.testBit g = qs_any (fun t => qs_on (w.1 84) t g) 0 bn) :
    ∀ (d n s : Nat) (h' : Nat → Nat → Int32), s + d = 2 ^ fn → d < n → (∀ c, c < 65 ∨ 75 < c → c ≠ 81 → c ≠ 82 → h' c = h c) → (∀ j, j ≠ st → h' 81 j = h 81 j ∧ h' 82 j = h 82 j) → h' 81 st = qk_e1 (qk_b (qk_fe (w.1 84) (w.1 86) pn fn bn st (qs_or hmo pn) hk) (fun s => qk_w (w.1 84) s fn) s) → h' 82 st = qk_e2 (qk_b (qk_fe (w.1 84) (w.1 86) pn fn bn st (qs_or hmo pn) hk) (fun s => qk_w (w.1 84) s fn) s) → ∃ h'', zH_findStrike_L68 n (nI st) (nI A) (nI s) h' = some h'' ∧ (∀ c, c < 65 ∨ 75 < c → c ≠ 81 → c ≠ 82 → h'' c = h c) ∧ (∀ j, j ≠ st → h'' 81 j = h 81 j ∧ h'' 82 j = h 82 j) ∧ h'' 81 st = qk_e1 (qk_B (w.1 84) (w.1 86) pn fn bn st (qs_or hmo pn) hk) ∧ h'' 82 st = qk_e2 (qk_B (w.1 84) (w.1 86) pn fn bn st (qs_or hmo pn) hk)
  | 0, n + 1, s, h', hd, _, hf, hj, h1, h2 => by
    obtain ⟨a0, a1, a4, a6, lpn, lfn, ltn, lbn⟩ := id HA.1
    have h6 : 2 ^ fn ≤ 2 ^ 6 := Nat.pow_le_pow_right (n := 2) (by omega) lfn
    have : s = 2 ^ fn := by omega
    have s4 : h' 1 4 = nI fn := by rw [hf 1 (by omega) (by omega) (by omega)]; exact (qi_stg0 HS).1.2.2.1
    have eL := qa_1shl (i := fn) (by omega)
    refine ⟨h', ?_, hf, hj, ?_, ?_⟩
    · simp (disch := omega) only [↓reduceIte, zH_findStrike_L68, s4, qa_lit, qa_31, eL, qa_ltF]
    · rw [h1, this]; rfl
    · rw [h2, this]; rfl
  | d + 1, n + 1, s, h', hd, hn, hf, hj, h1, h2 => by
    obtain ⟨a0, a1, a4, a6, lpn, lfn, ltn, lbn⟩ := id HA.1
    have h6 : 2 ^ fn ≤ 2 ^ 6 := Nat.pow_le_pow_right (n := 2) (by omega) lfn
    have s64 : s < 64 := by omega
    have st8 := (qs_set_tb pn (by omega) st hs).1
    have HS' := qi_stg_h (h' := h') (fun c _ hc => hf c (by omega) (by omega) (by omega)) HS
    have HL' : qk_L (w.1 84) (w.1 86) pn fn bn h' := fun t ht f hff => qk_ok_h ⟨by rw [hf 62 (by omega) (by omega) (by omega)], by rw [hf 63 (by omega) (by omega) (by omega)], by rw [hf 64 (by omega) (by omega) (by omega)]⟩ (HL t ht f hff)
    have s4 : h' 1 4 = nI fn := (qi_stg0 HS').1.2.2.1
    have eL := qa_1shl (i := fn) (by omega)
    have wl := qk_w_le HA hL s fn (Nat.le_refl _)
    have ewt : zG_weightOf (nI s) h' = some (nI (qk_w (w.1 84) s fn)) := qh_wt HA hL HS' s64 fn am_N 0 (by omega) (Nat.lt_of_le_of_lt lfn (by decide))
    have esub := decide_eq_decide.mp (qt_sub s s64 A hA6)
    by_cases hq : s &&& A = s
    · have esubT : (nI s &&& (nI A ^^^ qN) = nI 0) = True := eq_true (esub.mpr hq)
      obtain ⟨h2', z1, z2⟩ := qh_can HA hP HS' HL' e2 hs s64 eh hhk
      have eb : qk_b (qk_fe (w.1 84) (w.1 86) pn fn bn st (qs_or hmo pn) hk) (fun s => qk_w (w.1 84) s fn) (s + 1) = (match qk_b (qk_fe (w.1 84) (w.1 86) pn fn bn st (qs_or hmo pn) hk) (fun s => qk_w (w.1 84) s fn) s with | none => if qk_fe (w.1 84) (w.1 86) pn fn bn st (qs_or hmo pn) hk s then some (s, qk_w (w.1 84) s fn) else none | some q => if decide (qk_w (w.1 84) s fn < q.2) && qk_fe (w.1 84) (w.1 86) pn fn bn st (qs_or hmo pn) hk s then some (s, qk_w (w.1 84) s fn) else some q) := rfl
      have hB : ∀ q, qk_b (qk_fe (w.1 84) (w.1 86) pn fn bn st (qs_or hmo pn) hk) (fun s => qk_w (w.1 84) s fn) s = some q → q.1 < 64 ∧ q.2 < 2147483648 := qk_b_bd _ (by omega) (fun j _ => by have := qk_w_le HA hL j fn (Nat.le_refl _); omega)
      have ih := fun h'' => qh_strikeL HA hL hP HS HL e2 hs eh hhk hA6 hA d n (s + 1) h'' (by omega) (by omega)
      rw [eb] at ih
      generalize hv : va_up (va_up h2' 81 (upd (h2' 81) st (nI s))) 82 (upd (h2' 82) st (nI (qk_w (w.1 84) s fn))) = v
      have v0 : ∀ c, c ≠ 81 → c ≠ 82 → v c = h2' c := fun c a b => by
        subst hv
        simp (disch := omega) only [↓reduceIte, ↓qa_b, qa_b, qa_lit, qa_neg1, qa_qN, nI_add, pk_mul, qa_ix, qa_cl, qa_ltT, qa_ltF, qa_eqT, qa_eqF, qa_nN, qa_Nn, qa_ltN, qa_Nlt, qa_NN, qa_ltNN, qa_sub, qa_dec, qa_dec0, qa_sub0, qa_incN, qa_31, qa_shr, qa_shl, qa_and1, va_up_self, qa_une, pk_us, pk_un, qa_up2, qa_upd2, Option.bind_some, if_true, if_false, and_true, true_and, and_self, qa_f1, qa_f2]
      have v81 : v 81 = upd (h2' 81) st (nI s) := by
        subst hv
        simp (disch := omega) only [↓reduceIte, ↓qa_b, qa_b, qa_lit, qa_neg1, qa_qN, nI_add, pk_mul, qa_ix, qa_cl, qa_ltT, qa_ltF, qa_eqT, qa_eqF, qa_nN, qa_Nn, qa_ltN, qa_Nlt, qa_NN, qa_ltNN, qa_sub, qa_dec, qa_dec0, qa_sub0, qa_incN, qa_31, qa_shr, qa_shl, qa_and1, va_up_self, qa_une, pk_us, pk_un, qa_up2, qa_upd2, Option.bind_some, if_true, if_false, and_true, true_and, and_self, qa_f1, qa_f2]
      have v82 : v 82 = upd (h2' 82) st (nI (qk_w (w.1 84) s fn)) := by
        subst hv
        simp (disch := omega) only [↓reduceIte, ↓qa_b, qa_b, qa_lit, qa_neg1, qa_qN, nI_add, pk_mul, qa_ix, qa_cl, qa_ltT, qa_ltF, qa_eqT, qa_eqF, qa_nN, qa_Nn, qa_ltN, qa_Nlt, qa_NN, qa_ltNN, qa_sub, qa_dec, qa_dec0, qa_sub0, qa_incN, qa_31, qa_shr, qa_shl, qa_and1, va_up_self, qa_une, pk_us, pk_un, qa_up2, qa_upd2, Option.bind_some, if_true, if_false, and_true, true_and, and_self, qa_f1, qa_f2]
      have fr2 : ∀ c, c < 65 ∨ 75 < c → c ≠ 81 → c ≠ 82 → h2' c = h c := fun c c1 c2 c3 => by rw [z2 c c1, hf c c1 c2 c3]
      have fj2 : ∀ j, j ≠ st → h2' 81 j = h 81 j ∧ h2' 82 j = h 82 j := fun j q => by rw [z2 81 (by omega), z2 82 (by omega)]; exact hj j q
      have frv : ∀ c, c < 65 ∨ 75 < c → c ≠ 81 → c ≠ 82 → v c = h c := fun c c1 c2 c3 => by rw [v0 c c2 c3, fr2 c c1 c2 c3]
      have fjv : ∀ j, j ≠ st → v 81 j = h 81 j ∧ v 82 j = h 82 j := fun j q => by rw [v81, v82, pk_un q, pk_un q]; exact fj2 j q
      have J : zH_findStrike_J129 (fun v1 v2 v3 h => zH_findStrike_L68 n v1 v2 v3 h) (nI st) (nI A) (nI s) (nI (qk_w (w.1 84) s fn)) h' = zH_findStrike_L68 n (nI st) (nI A) (nI (s + 1)) (if qk_fe (w.1 84) (w.1 86) pn fn bn st (qs_or hmo pn) hk s then v else h2') := by
        cases hfe : qk_fe (w.1 84) (w.1 86) pn fn bn st (qs_or hmo pn) hk s
        · rw [hfe] at z1
          simp (disch := omega) only [↓reduceIte, zH_findStrike_J129, z1, Option.bind_some, qs_b0, qa_lit, nI_add, Bool.false_eq_true]
        · rw [hfe] at z1
          rw [← hv]
          simp (disch := omega) only [↓reduceIte, ↓qa_b, zH_findStrike_J129, z1, Option.bind_some, qs_b0, qa_lit, nI_add, Bool.true_eq_false, qa_ix, qa_cl, qa_une]
      cases hb : qk_b (qk_fe (w.1 84) (w.1 86) pn fn bn st (qs_or hmo pn) hk) (fun s => qk_w (w.1 84) s fn) s with
      | none =>
        rw [hb] at h1 h2 ih
        rw [qk_e1n] at h1
        rw [qk_e2n] at h2
        have st1 : zH_findStrike_L68 (n + 1) (nI st) (nI A) (nI s) h' = zH_findStrike_J129 (fun v1 v2 v3 h => zH_findStrike_L68 n v1 v2 v3 h) (nI st) (nI A) (nI s) (nI (qk_w (w.1 84) s fn)) h' := by
          simp (disch := omega) only [↓reduceIte, zH_findStrike_L68, s4, qa_lit, qa_31, eL, qa_ltT, qa_neg1, qa_qN, esubT, ewt, Option.bind_some, qa_ix, qa_cl, h2]
        rw [st1, J]
        cases hfe : qk_fe (w.1 84) (w.1 86) pn fn bn st (qs_or hmo pn) hk s
        · rw [hfe] at ih
          exact ih h2' fr2 fj2 (by rw [z2 81 (by omega)]; exact h1) (by rw [z2 82 (by omega)]; exact h2)
        · rw [hfe] at ih
          exact ih v frv fjv (by rw [v81, pk_us]; rfl) (by rw [v82, pk_us]; rfl)
      | some q =>
        obtain ⟨q1, q2⟩ := hB q hb
        rw [hb] at h1 h2 ih
        rw [qk_e1s] at h1
        rw [qk_e2s] at h2
        by_cases hw : qk_w (w.1 84) s fn < q.2
        · have st1 : zH_findStrike_L68 (n + 1) (nI st) (nI A) (nI s) h' = zH_findStrike_J129 (fun v1 v2 v3 h => zH_findStrike_L68 n v1 v2 v3 h) (nI st) (nI A) (nI s) (nI (qk_w (w.1 84) s fn)) h' := by
            simp (disch := omega) only [↓reduceIte, zH_findStrike_L68, s4, qa_lit, qa_31, eL, qa_ltT, qa_neg1, qa_qN, esubT, ewt, Option.bind_some, qa_ix, qa_cl, h2, qa_nN]
          rw [st1, J]
          simp only [decide_eq_true hw, Bool.true_and] at ih
          cases hfe : qk_fe (w.1 84) (w.1 86) pn fn bn st (qs_or hmo pn) hk s
          · rw [hfe] at ih
            exact ih h2' fr2 fj2 (by rw [z2 81 (by omega)]; exact h1) (by rw [z2 82 (by omega)]; exact h2)
          · rw [hfe] at ih
            exact ih v frv fjv (by rw [v81, pk_us]; rfl) (by rw [v82, pk_us]; rfl)
        · have st1 : zH_findStrike_L68 (n + 1) (nI st) (nI A) (nI s) h' = zH_findStrike_L68 n (nI st) (nI A) (nI (s + 1)) h' := by
            simp (disch := omega) only [↓reduceIte, zH_findStrike_L68, s4, qa_lit, qa_31, eL, qa_ltT, qa_ltF, qa_neg1, qa_qN, esubT, ewt, Option.bind_some, qa_ix, qa_cl, h2, qa_nN, nI_add]
          rw [st1]
          simp only [decide_eq_false hw, Bool.false_and] at ih
          exact ih h' hf hj h1 h2
    · have esubF : (nI s &&& (nI A ^^^ qN) = nI 0) = False := eq_false (fun z => hq (esub.mp z))
      have lt := (qt_and s s64 A hA6).resolve_left hq
      have sk := qk_b_skip (fe := qk_fe (w.1 84) (w.1 86) pn fn bn st (qs_or hmo pn) hk) (wt := fun s => qk_w (w.1 84) s fn) lt (qk_fe_A hA) (qk_w_and _ s A fn)
      have st1 : zH_findStrike_L68 (n + 1) (nI st) (nI A) (nI s) h' = zH_findStrike_L68 n (nI st) (nI A) (nI (s + 1)) h' := by
        simp (disch := omega) only [↓reduceIte, zH_findStrike_L68, s4, qa_lit, qa_31, eL, qa_ltT, qa_neg1, qa_qN, esubF, nI_add]
      rw [st1]
      exact qh_strikeL HA hL hP HS HL e2 hs eh hhk hA6 hA d n (s + 1) h' (by omega) (by omega) hf hj (by rw [sk]; exact h1) (by rw [sk]; exact h2)
end
