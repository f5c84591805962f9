/-! THE HEART: judge: hooks and rest -/
theorem qj_bnor : ∀ x, x < 64 → ∀ y, y < 64 → x &&& y ≠ 0 ∨ qs_bn (x ||| y) = qs_bn x + qs_bn y := by decide +kernel
theorem qj_bn4 : ∀ pn, pn < 4 → ∀ x, x < 64 → 4 ^ pn ≤ x ∨ qs_bn x ≤ 2 * pn := by decide +kernel
theorem qj_bc : ∀ x, x < 64 → zD_bitCount (nI x) = nI (qs_bn x) := by decide +kernel
/-- how many are off, from f on -/
def qj_of (a : Nat → Int32) (t : Nat) : Nat → Nat → Nat
  | _, 0 => 0
  | f, k + 1 => (if qs_on a t f then 0 else 1) + qj_of a t (f + 1) k
theorem qj_of_le (a : Nat → Int32) (t : Nat) : ∀ k f, qj_of a t f k ≤ k
  | 0, _ => Nat.le_refl 0
  | k + 1, f => by
    have := qj_of_le a t k (f + 1)
    unfold qj_of
    split <;> omega
def qj_6 (a : Nat → Int32) (pn fn t : Nat) : Bool := decide (¬ nI (2 * pn - qs_bn (qs_by a t fn)) < nI (qj_of a t 0 fn) - a 2)
section
variable {L P pn fn tn bn : Nat} {h : Nat → Nat → Int32} {w : zHM}
theorem qs_by4 (HA : qi_a L P pn fn tn bn (w.1 84)) {t : Nat} (ht : t < bn) : ∀ f, f ≤ fn → qs_by (w.1 84) t f < 4 ^ pn
  | 0, _ => Nat.pow_pos (by omega)
  | f + 1, hf => by
    have e : 4 ^ pn = 2 ^ (2 * pn) := by rw [Nat.pow_mul]
    rw [qs_by_s, e]
    have h1 := qs_by4 HA ht f (by omega)
    have h2 := (qi_hd HA ht (show f < fn by omega)).2.1
    rw [e] at h1 h2
    exact Nat.or_lt_two_pow h1 h2
theorem qs_bnby (HA : qi_a L P pn fn tn bn (w.1 84)) {t f : Nat} (ht : t < bn) (hf : f ≤ fn) : qs_bn (qs_by (w.1 84) t f) ≤ 2 * pn := by
  have := HA.1
  rcases qj_bn4 pn (by omega) _ (qs_by_lt HA ht f hf) with q | q
  · have := qs_by4 HA ht f hf
    omega
  · exact q
theorem qh_j6 (HA : qi_a L P pn fn tn bn (w.1 84)) (HS : qi_stg 0 P pn fn tn bn h (w.1 84)) {t : Nat} (ht : t < bn) : ∀ (k n f c : Nat), f + k = fn → k < n → c ≤ f → zJ_isHung_L4 n (nI t) (nI c) (nI f) h = some (if nI (2 * pn - qs_bn (qs_by (w.1 84) t fn)) < nI (c + qj_of (w.1 84) t f k) - w.1 84 2 then nI 0 else nI 1)
  | 0, n + 1, f, c, hf, _, _ => by
    obtain ⟨a0, a1, a4, a6, lpn, lfn, ltn, lbn⟩ := HA.1
    obtain ⟨s0, s1, s4, s9, -⟩ := (qi_stg0 HS).1
    have eb := qh_busy HA HS ht
    have ec := qj_bc _ (qs_by_lt HA ht fn (Nat.le_refl fn))
    have bl := qs_bnby HA ht (Nat.le_refl fn)
    rw [show c + qj_of (w.1 84) t f 0 = c from rfl]
    simp (disch := omega) only [↓reduceIte, ↓qa_b, zJ_isHung_L4, zG_hands, s4, s1, s9, qa_ltF, qa_lit, pk_mul, eb, Option.bind_some, ec, qa_sub]
    split <;> rfl
  | k + 1, n + 1, f, c, hf, hn, hc => by
    obtain ⟨a0, a1, a4, a6, lpn, lfn, ltn, lbn⟩ := HA.1
    obtain ⟨s0, s1, s4, s9, -⟩ := (qi_stg0 HS).1
    have eon := qh_isOn HA HS ht (show f < fn by omega)
    unfold qj_of
    cases ho : qs_on (w.1 84) t f
    · rw [ho] at eon
      have ih := qh_j6 HA HS ht k n (f + 1) (c + 1) (by omega) (by omega) (by omega)
      simp (disch := omega) only [↓reduceIte, zJ_isHung_L4, s4, qa_ltT, eon, Option.bind_some, qs_b0, qa_lit, nI_add, Bool.false_eq_true]
      rw [← Nat.add_assoc]
      exact ih
    · rw [ho] at eon
      have ih := qh_j6 HA HS ht k n (f + 1) c (by omega) (by omega) (by omega)
      simp (disch := omega) only [↓reduceIte, zJ_isHung_L4, s4, qa_ltT, eon, Option.bind_some, qs_b0, qa_lit, nI_add, Bool.true_eq_false, Nat.zero_add]
      exact ih
theorem qm_j6 (HA : qi_a L P pn fn tn bn (w.1 84)) (hP : P ≤ 8) {t : Nat} (ht : t < bn) (H2 : ∀ g, g < fn → qj_2 (w.1 84) t g = true) : ∀ (k n f c : Nat), f + k = fn → k < n → c ≤ f → zM_areHung_L10 n (nI t) (nI c) (nI (2 * pn - qs_bn (qs_by (w.1 84) t f))) (nI f) w = some (if nI (2 * pn - qs_bn (qs_by (w.1 84) t fn)) < nI (c + qj_of (w.1 84) t f k) - w.1 84 2 then nI 0 else nI 1)
  | 0, n + 1, f, c, hf, _, _ => by
    have : f = fn := by omega
    subst this
    obtain ⟨a0, a1, a4, a6, lpn, lfn, ltn, lbn⟩ := HA.1
    rw [show c + qj_of (w.1 84) t f 0 = c from rfl]
    simp (disch := omega) only [↓reduceIte, zM_areHung_L10, a1, qa_ltF, qa_lit]
    split <;> rfl
  | k + 1, n + 1, f, c, hf, hn, hc => by
    obtain ⟨a0, a1, a4, a6, lpn, lfn, ltn, lbn⟩ := HA.1
    obtain ⟨x1, x2, x3⟩ := qi_x HA ht (show f < fn by omega)
    have eh := qm_heldBy (w := w) (t := t) (f := f) (by omega) (by omega)
    have ep := qm_placeOf (w := w) (t := t) (f := f) (by omega) (by omega)
    have eb := qm_bits x3
    rw [x1] at eh
    have b1 := qs_bnby HA ht (show f ≤ fn by omega)
    have b2 := qs_bnby HA ht (show f + 1 ≤ fn by omega)
    have h2 := H2 f (by omega)
    unfold qj_2 at h2
    have h2 := of_decide_eq_true h2
    have es : qs_bn (qs_by (w.1 84) t (f + 1)) = qs_bn (qs_by (w.1 84) t f) + qs_bn (qs_x (w.1 84) t f) := by
      rcases qj_bnor _ (qs_by_lt HA ht f (by omega)) _ x3 with q | q
      · exact absurd h2 q
      · exact q
    have ed : 2 * pn - qs_bn (qs_by (w.1 84) t f) - qs_bn (qs_x (w.1 84) t f) = 2 * pn - qs_bn (qs_by (w.1 84) t (f + 1)) := by omega
    unfold qj_of
    rcases qi_pl HA hP ht (show f < fn by omega) with ⟨ho, hp⟩ | ⟨ho, y, hy, hp⟩
    · rw [hp] at ep
      have ih := qm_j6 HA hP ht H2 k n (f + 1) (c + 1) (by omega) (by omega) (by omega)
      rw [ho]
      simp (disch := omega) only [↓reduceIte, ↓qa_b, zM_areHung_L10, zM_areHung_J37, a1, qa_ltT, ep, eh, eb, Option.bind_some, qa_lit, qa_Nlt0, nI_add, qa_sub, ed, Bool.false_eq_true]
      rw [← Nat.add_assoc]
      exact ih
    · rw [hp] at ep
      have ih := qm_j6 HA hP ht H2 k n (f + 1) c (by omega) (by omega) (by omega)
      rw [ho]
      simp (disch := omega) only [↓reduceIte, ↓qa_b, zM_areHung_L10, zM_areHung_J37, a1, qa_ltT, qa_ltF, ep, eh, eb, Option.bind_some, qa_lit, nI_add, qa_sub, ed, Nat.add_zero, Nat.zero_add]
      exact ih
/-- who is tired behind b beats back -/
def qj_tr (a : Nat → Int32) (fn t : Nat) : Nat → Nat
  | 0 => qs_by a t fn
  | b + 1 => if t < b + 1 then 0 else qj_tr a fn t b &&& qs_by a (t - (b + 1)) fn
theorem qs_rn_ge (a : Nat → Int32) (fn hd : Nat) : ∀ t b, b + 1 ≤ qs_rn a fn hd t ↔ (b ≤ t ∧ ∀ i, i ≤ b → (qs_by a (t - i) fn).testBit hd = true)
  | 0, b => by
    unfold qs_rn
    cases hb : (qs_by a 0 fn).testBit hd
    · simp only [Bool.false_eq_true, if_false]
      constructor
      · intro h; omega
      · rintro ⟨_, H⟩
        have := H 0 (by omega)
        rw [Nat.sub_zero, hb] at this
        cases this
    · simp only [if_true]
      constructor
      · intro h
        refine ⟨by omega, fun i hi => ?_⟩
        have : i = 0 := by omega
        subst this
        exact hb
      · rintro ⟨h, _⟩
        omega
  | t + 1, b => by
    unfold qs_rn
    cases hb : (qs_by a (t + 1) fn).testBit hd
    · simp only [Bool.false_eq_true, if_false]
      constructor
      · intro h; omega
      · rintro ⟨_, H⟩
        have := H 0 (by omega)
        rw [Nat.sub_zero, hb] at this
        cases this
    · simp only [if_true]
      rcases b with _ | b
      · constructor
        · intro _
          refine ⟨by omega, fun i hi => ?_⟩
          have : i = 0 := by omega
          subst this
          exact hb
        · intro _; omega
      · have ih := qs_rn_ge a fn hd t b
        constructor
        · intro h
          obtain ⟨h1, h2⟩ := ih.mp (by omega)
          refine ⟨by omega, fun i hi => ?_⟩
          rcases i with _ | i
          · exact hb
          · rw [show t + 1 - (i + 1) = t - i by omega]
            exact h2 i (by omega)
        · rintro ⟨h1, h2⟩
          have := ih.mpr ⟨by omega, fun i hi => by
            have := h2 (i + 1) (by omega)
            rw [show t + 1 - (i + 1) = t - i by omega] at this
            exact this⟩
          omega
theorem qj_tr_tb (a : Nat → Int32) (fn t hd : Nat) : ∀ b, (qj_tr a fn t b).testBit hd = true ↔ (b ≤ t ∧ ∀ i, i ≤ b → (qs_by a (t - i) fn).testBit hd = true)
  | 0 => by
    unfold qj_tr
    constructor
    · intro h
      refine ⟨by omega, fun i hi => ?_⟩
      have : i = 0 := by omega
      subst this
      exact h
    · rintro ⟨_, H⟩
      exact H 0 (by omega)
  | b + 1 => by
    unfold qj_tr
    by_cases hc : t < b + 1
    · rw [if_pos hc, Nat.zero_testBit]
      constructor
      · intro h; cases h
      · rintro ⟨h, _⟩; omega
    · rw [if_neg hc, Nat.testBit_and, Bool.and_eq_true, qj_tr_tb a fn t hd b]
      constructor
      · rintro ⟨⟨h1, h2⟩, h3⟩
        refine ⟨by omega, fun i hi => ?_⟩
        by_cases e : i = b + 1
        · subst e; exact h3
        · exact h2 i (by omega)
      · rintro ⟨h1, h2⟩
        exact ⟨⟨by omega, fun i hi => h2 i (by omega)⟩, h2 (b + 1) (by omega)⟩
theorem qj_tr_lt (HA : qi_a L P pn fn tn bn (w.1 84)) {t : Nat} (ht : t < bn) : ∀ b, qj_tr (w.1 84) fn t b < 64
  | 0 => qs_by_lt HA ht fn (Nat.le_refl fn)
  | b + 1 => by
    unfold qj_tr
    split
    · omega
    · exact Nat.lt_of_le_of_lt Nat.and_le_left (qj_tr_lt HA ht b)
theorem qj_tr_0 {a : Nat → Int32} {fn t : Nat} : ∀ {b k : Nat}, qj_tr a fn t b = 0 → qj_tr a fn t (b + k) = 0
  | b, 0, h => h
  | b, k + 1, h => by
    have := qj_tr_0 (k := k) h
    rw [show b + (k + 1) = (b + k) + 1 by omega]
    unfold qj_tr
    split
    · rfl
    · rw [this, Nat.zero_and]
theorem qh_j8 (HA : qi_a L P pn fn tn bn (w.1 84)) (HS : qi_stg 0 P pn fn tn bn h (w.1 84)) {t lm : Nat} (ht : t < bn) (hl : lm ≤ 24) (e3 : w.1 84 3 = nI lm) : ∀ (k n b : Nat), b + k = lm → k < n → zJ_isRested_L17 n (nI t) (nI (qj_tr (w.1 84) fn t b)) (nI (b + 1)) h = some (qs_b (decide (qj_tr (w.1 84) fn t lm = 0)))
  | 0, n + 1, b, hb, _ => by
    have : b = lm := by omega
    subst this
    obtain ⟨a0, a1, a4, a6, lpn, lfn, ltn, lbn⟩ := HA.1
    have s10 := (qi_stg0 HS).1.2.2.2.2.1
    rw [e3] at s10
    have tl := qj_tr_lt HA ht b
    by_cases h0 : qj_tr (w.1 84) fn t b = 0
    · simp (disch := omega) only [↓reduceIte, zJ_isRested_L17, zJ_isRested_J54, s10, qa_ltT, qa_lit, h0, decide_true]
      rfl
    · simp (disch := omega) only [↓reduceIte, zJ_isRested_L17, zJ_isRested_J54, s10, qa_ltT, qa_lit, h0, qa_eqF, decide_false]
      rfl
  | k + 1, n + 1, b, hb, hn => by
    obtain ⟨a0, a1, a4, a6, lpn, lfn, ltn, lbn⟩ := HA.1
    have s10 := (qi_stg0 HS).1.2.2.2.2.1
    rw [e3] at s10
    have tl := qj_tr_lt HA ht b
    by_cases h0 : qj_tr (w.1 84) fn t b = 0
    · have hz : qj_tr (w.1 84) fn t lm = 0 := by
        rw [← hb]
        exact qj_tr_0 h0
      simp (disch := omega) only [↓reduceIte, zJ_isRested_L17, zJ_isRested_J54, s10, qa_ltF, qa_lit, h0, hz, decide_true]
      rfl
    · have ih := qh_j8 HA HS ht hl e3 k n (b + 1) (by omega) (by omega)
      have es : qj_tr (w.1 84) fn t (b + 1) = if t < b + 1 then 0 else qj_tr (w.1 84) fn t b &&& qs_by (w.1 84) (t - (b + 1)) fn := rfl
      rw [es] at ih
      by_cases hc : t < b + 1
      · rw [if_pos hc] at ih
        simp (disch := omega) only [↓reduceIte, zJ_isRested_L17, s10, qa_ltF, qa_ltT, qa_lit, qa_eqF, nI_add]
        exact ih
      · rw [if_neg hc] at ih
        have eb := qh_busy HA HS (t := t - (b + 1)) (by omega)
        simp (disch := omega) only [↓reduceIte, ↓qa_b, zJ_isRested_L17, s10, qa_ltF, qa_lit, qa_eqF, qa_sub, eb, Option.bind_some, fa_and, nI_add]
        exact ih
/-- all hands have rested -/
def qj_8 (a : Nat → Int32) (pn fn t : Nat) : Bool := decide (a 3 = nI 0) || qs_all (fun hd => decide (¬ a 3 < nI (qs_rn a fn hd t))) 0 (2 * pn)
theorem qj_rest (HA : qi_a L P pn fn tn bn (w.1 84)) {t lm : Nat} (ht : t < bn) (hl : lm ≤ 24) (e3 : w.1 84 3 = nI lm) : decide (qj_tr (w.1 84) fn t lm = 0) = qs_all (fun hd => decide (¬ w.1 84 3 < nI (qs_rn (w.1 84) fn hd t))) 0 (2 * pn) := by
  obtain ⟨a0, a1, a4, a6, lpn, lfn, ltn, lbn⟩ := HA.1
  rw [Bool.eq_iff_iff, decide_eq_true_eq, qs_all_iff, qs_z64 _ (qj_tr_lt HA ht lm)]
  have rl : ∀ hd, qs_rn (w.1 84) fn hd t < 100 := fun hd => by
    have := qs_rn_le (w.1 84) fn hd t
    omega
  constructor
  · intro H j _ hj
    rw [decide_eq_true_eq, e3, qa_ltE (by omega) (by have := rl j; omega)]
    intro hlt
    have := (qj_tr_tb (w.1 84) fn t j lm).mpr ((qs_rn_ge (w.1 84) fn j t lm).mp (by omega))
    rw [H j (by omega)] at this
    cases this
  · intro H j hj
    cases hb : (qj_tr (w.1 84) fn t lm).testBit j
    · rfl
    · have h1 := (qj_tr_tb (w.1 84) fn t j lm).mp hb
      have h2 := (qs_rn_ge (w.1 84) fn j t lm).mpr h1
      have h3 := h1.2 0 (by omega)
      rw [Nat.sub_zero] at h3
      have hj2 : j < 2 * pn := by
        rcases qs_big pn (by omega) _ (qs_by_lt HA ht fn (Nat.le_refl fn)) with q | q
        · have := qs_by4 HA ht fn (Nat.le_refl fn)
          omega
        · exact q j hj h3
      have := H j (by omega) (by omega)
      rw [decide_eq_true_eq, e3, qa_ltE (by omega) (by have := rl j; omega)] at this
      omega
theorem qm_j8 (HA : qi_a L P pn fn tn bn (w.1 84)) {t lm : Nat} (ht : t < bn) (h0 : 0 < lm) (hl : lm ≤ 24) (e3 : w.1 84 3 = nI lm) : ∀ (k n x : Nat), x + k = 2 * pn → k < n → zM_whyNot_L218 n (nI t) (nI x) w = if qs_all (fun hd => decide (¬ w.1 84 3 < nI (qs_rn (w.1 84) fn hd t))) x k then some (nI 0, w) else some (nI 8, w)
  | 0, n + 1, x, hx, _ => by
    obtain ⟨a0, a1, a4, a6, lpn, lfn, ltn, lbn⟩ := HA.1
    simp (disch := omega) only [↓reduceIte, ↓qa_b, zM_whyNot_L218, zM_hands, a0, pk_mul, qa_ltF, qa_lit, qs_all]
  | k + 1, n + 1, x, hx, hn => by
    obtain ⟨a0, a1, a4, a6, lpn, lfn, ltn, lbn⟩ := HA.1
    have ih := qm_j8 HA ht h0 hl e3 k n (x + 1) (by omega) (by omega)
    have ef := qm_longFor HA ht (show x < 6 by omega)
    have rl := qs_rn_le (w.1 84) fn x t
    have e0 : qs_all (fun hd => decide (¬ w.1 84 3 < nI (qs_rn (w.1 84) fn hd t))) x (k + 1) = (decide (¬ w.1 84 3 < nI (qs_rn (w.1 84) fn x t)) && qs_all (fun hd => decide (¬ w.1 84 3 < nI (qs_rn (w.1 84) fn hd t))) (x + 1) k) := rfl
    rw [e0]
    by_cases hlt : lm < qs_rn (w.1 84) fn x t
    · have hd : decide (¬ w.1 84 3 < nI (qs_rn (w.1 84) fn x t)) = false := decide_eq_false (fun q => q (by rw [e3]; exact nI_lt hlt (by omega)))
      rw [hd, Bool.false_and]
      simp (disch := omega) only [↓reduceIte, ↓qa_b, zM_whyNot_L218, zM_hands, a0, pk_mul, qa_ltT, qa_lit, e3, ef, Option.bind_some, Bool.false_eq_true]
    · have hd : decide (¬ w.1 84 3 < nI (qs_rn (w.1 84) fn x t)) = true := decide_eq_true (by rw [e3]; exact nI_nlt (by omega) (by omega))
      rw [hd, Bool.true_and]
      rw [e3] at ih ⊢
      simp (disch := omega) only [↓reduceIte, ↓qa_b, zM_whyNot_L218, zM_hands, a0, pk_mul, qa_ltT, qa_ltF, qa_lit, e3, ef, Option.bind_some, nI_add]
      exact ih
end
