/-! THE HEART: judge, figure by figure -/
def qs_all (p : Nat → Bool) : Nat → Nat → Bool
  | _, 0 => true
  | i, k + 1 => p i && qs_all p (i + 1) k
theorem qs_all_iff (p : Nat → Bool) : ∀ k i, qs_all p i k = true ↔ ∀ j, i ≤ j → j < i + k → p j = true
  | 0, i => ⟨fun _ j h1 h2 => by omega, fun _ => rfl⟩
  | k + 1, i => by
    unfold qs_all
    rw [Bool.and_eq_true, qs_all_iff p k (i + 1)]
    constructor
    · rintro ⟨h, H⟩ j h1 h2
      by_cases e : j = i
      · subst e; exact h
      · exact H j (by omega) (by omega)
    · intro H
      exact ⟨H i (by omega) (by omega), fun j h1 h2 => H j (by omega) (by omega)⟩
/-- what is held -/
def qs_x (a : Nat → Int32) (t f : Nat) : Nat := qv a (200 + 6 * t + f)
def qj_w (kd x : Nat) : Bool := if kd = 2 then decide (x = 3 ∨ x = 12 ∨ x = 48) else decide (qs_bn x = 1)
def qj_1 (a : Nat → Int32) (t f : Nat) : Bool := if qs_on a t f then qj_w (qs_kd a f) (qs_x a t f) else decide (qs_x a t f = 0)
def qj_2 (a : Nat → Int32) (t f : Nat) : Bool := decide (qs_by a t f &&& qs_x a t f = 0)
def qj_3 (a : Nat → Int32) (t f : Nat) : Bool := !qs_on a t f || qs_rc a (qs_lo (qs_x a t f) / 2) (qs_pl a t f)
def qj_5 (a tx : Nat → Int32) (t f : Nat) : Bool := !qs_on a t f || qs_law a tx 0 t f (qs_lo (qs_x a t f) / 2) (if qs_bn (qs_x a t f) = 1 then qs_lo (qs_x a t f) % 2 else 0)
def qj_7 (a tx : Nat → Int32) (t f : Nat) : Bool := !qs_sw a t f || (decide (qs_x a (t - 1) f ≠ 0) && qs_law a tx 1 t f (qs_lo (qs_x a (t - 1) f) / 2) (qs_lo (qs_x a t f) / 2))
def qs_oh (x : Nat) : Nat := if x % 4 ≠ 0 then 0 else if x / 4 % 4 ≠ 0 then 1 else if x / 16 % 4 ≠ 0 then 2 else 0
theorem qh_owner {x : Nat} (hx : x < 64) : zH_ownerOfHands (nI x) = some (nI (qs_oh x)) := by
  have en : am_N = 999996 + 4 := by decide
  have m3 : ∀ y, nI y &&& nI 3 = nI (y % 4) := fun y => fa_mask y 2
  have z : ∀ y, y < 4 → ((nI y = nI 0) = (y = 0)) := fun y hy => qa_eqE (by omega) (by omega)
  have key : ∀ n, zH_ownerOfHands_L2 (n + 4) (nI x) (nI 0) = some (nI (qs_oh x)) := fun n => by
    unfold qs_oh
    have l0 : x % 4 < 4 := Nat.mod_lt _ (by omega)
    have l1 : x / 4 % 4 < 4 := Nat.mod_lt _ (by omega)
    have l2 : x / 16 % 4 < 4 := Nat.mod_lt _ (by omega)
    by_cases h0 : x % 4 = 0
    · by_cases h1 : x / 4 % 4 = 0
      · by_cases h2 : x / 16 % 4 = 0
        · simp (disch := omega) only [↓reduceIte, zH_ownerOfHands_L2, qa_ltT, qa_ltF, qa_lit, qa_31, qa_shr, m3, nI_add, pk_mul, Nat.reduceAdd, Nat.reduceMul, Nat.reducePow, Nat.div_one, h0, h1, h2, ne_eq, not_true]
        · simp (disch := omega) only [↓reduceIte, zH_ownerOfHands_L2, qa_ltT, qa_ltF, qa_lit, qa_31, qa_shr, m3, nI_add, pk_mul, Nat.reduceAdd, Nat.reduceMul, Nat.reducePow, Nat.div_one, h0, h1, h2, qa_eqF, ne_eq, not_true, not_false_eq_true]
      · simp (disch := omega) only [↓reduceIte, zH_ownerOfHands_L2, qa_ltT, qa_ltF, qa_lit, qa_31, qa_shr, m3, nI_add, pk_mul, Nat.reduceAdd, Nat.reduceMul, Nat.reducePow, Nat.div_one, h0, h1, qa_eqF, ne_eq, not_true, not_false_eq_true]
    · simp (disch := omega) only [↓reduceIte, zH_ownerOfHands_L2, qa_ltT, qa_ltF, qa_lit, qa_31, qa_shr, m3, nI_add, pk_mul, Nat.reduceAdd, Nat.reduceMul, Nat.reducePow, Nat.div_one, h0, qa_eqF, ne_eq, not_false_eq_true]
  unfold zH_ownerOfHands
  rw [en]
  exact key 999996
theorem qj_oh : ∀ x, x < 64 → 0 < x → qs_oh x = qs_lo x / 2 := by decide +kernel
theorem qj_w2 : ∀ x, x < 64 → 0 < x → (decide (x = 3 * 4 ^ qs_oh x)) = decide (x = 3 ∨ x = 12 ∨ x = 48) := by decide +kernel
theorem qj_w1 : ∀ x, x < 64 → 0 < x → decide (nI x = nI x &&& -(nI x)) = decide (qs_bn x = 1) := by decide +kernel
theorem qj_s3 : ∀ p, p < 3 → nI 3 <<< nI (2 * p) = nI (3 * 4 ^ p) := by decide +kernel
theorem qj_ohl : ∀ x, x < 64 → qs_oh x < 3 := by decide +kernel
theorem qj_34 : ∀ p, p < 3 → 3 * 4 ^ p < 64 := by decide +kernel
section
variable {L P pn fn tn bn : Nat} {h : Nat → Nat → Int32} {w : zHM}
theorem qi_x (HA : qi_a L P pn fn tn bn (w.1 84)) {t f : Nat} (ht : t < bn) (hf : f < fn) : w.1 84 (200 + 6 * t + f) = nI (qs_x (w.1 84) t f) ∧ qs_x (w.1 84) t f < 4 ^ pn ∧ qs_x (w.1 84) t f < 64 := qi_hd HA ht hf
theorem qh_j1 (HA : qi_a L P pn fn tn bn (w.1 84)) (HS : qi_stg 0 P pn fn tn bn h (w.1 84)) {t : Nat} (ht : t < bn) : ∀ (k n f : Nat), f + k = fn → k < n → zJ_isHeldAsWanted_L2 n (nI t) (nI f) h = some (qs_b (qs_all (qj_1 (w.1 84) t) f k))
  | 0, n + 1, f, hf, _ => by
    obtain ⟨a0, a1, a4, a6, lpn, lfn, ltn, lbn⟩ := HA.1
    have s4 := (qi_stg0 HS).1.2.2.1
    simp (disch := omega) only [↓reduceIte, ↓qa_b, qa_b, qa_lit, qa_neg1, qa_qN, nI_add, pk_mul, qa_ix, qa_cl, qa_ltT, qa_ltF, qa_eqT, qa_eqF, qa_nN, qa_Nn, qa_ltN, qa_Nlt, qa_NN, qa_ltNN, qa_sub, qa_dec, qa_dec0, qa_sub0, qa_incN, qa_31, qa_shr, qa_shl, qa_and1, va_up_self, qa_une, pk_us, pk_un, qa_up2, qa_upd2, Option.bind_some, if_true, if_false, and_true, true_and, and_self, qa_f1, qa_f2, zJ_isHeldAsWanted_L2, s4, qs_all]
    rfl
  | k + 1, n + 1, f, hf, hn => by
    obtain ⟨a0, a1, a4, a6, lpn, lfn, ltn, lbn⟩ := HA.1
    have s4 := (qi_stg0 HS).1.2.2.1
    have ih := qh_j1 HA HS ht k n (f + 1) (by omega) (by omega)
    obtain ⟨x1, x2, x3⟩ := qi_x HA ht (show f < fn by omega)
    obtain ⟨k1, k2⟩ := qi_kd HA (show f < fn by omega)
    have s9 := ((qi_stg0 HS).2.2.2.2.1 t f ht (by omega)).2
    have sk := ((qi_stg0 HS).2.2.1 f (by omega)).1
    rw [x1] at s9
    rw [k1] at sk
    have eon := qh_isOn HA HS ht (show f < fn by omega)
    have eow := qh_owner x3
    unfold qs_all
    cases ho : qs_on (w.1 84) t f
    · rw [ho] at eon
      have e1 : qj_1 (w.1 84) t f = decide (qs_x (w.1 84) t f = 0) := by unfold qj_1; rw [ho]; rfl
      rw [e1]
      by_cases h0 : qs_x (w.1 84) t f = 0
      · rw [decide_eq_true h0, Bool.true_and]
        simp (disch := omega) only [↓reduceIte, ↓qa_b, zJ_isHeldAsWanted_L2, s4, qa_ltT, pk_mul, nI_add, qa_ix, qa_cl, s9, eon, Option.bind_some, qs_b0, qa_lit, qa_eqT]
        exact ih
      · rw [decide_eq_false h0, Bool.false_and]
        simp (disch := omega) only [↓reduceIte, ↓qa_b, zJ_isHeldAsWanted_L2, s4, qa_ltT, pk_mul, nI_add, qa_ix, qa_cl, s9, eon, Option.bind_some, qs_b0, qa_lit, qa_eqF]
        rfl
    · rw [ho] at eon
      have e1 : qj_1 (w.1 84) t f = qj_w (qs_kd (w.1 84) f) (qs_x (w.1 84) t f) := by unfold qj_1; rw [ho]; rfl
      rw [e1]
      unfold qj_w
      by_cases h0 : qs_x (w.1 84) t f = 0
      · have : (if qs_kd (w.1 84) f = 2 then decide (qs_x (w.1 84) t f = 3 ∨ qs_x (w.1 84) t f = 12 ∨ qs_x (w.1 84) t f = 48) else decide (qs_bn (qs_x (w.1 84) t f) = 1)) = false := by rw [h0]; split <;> rfl
        rw [this, Bool.false_and]
        simp (disch := omega) only [↓reduceIte, ↓qa_b, zJ_isHeldAsWanted_L2, s4, qa_ltT, pk_mul, nI_add, qa_ix, qa_cl, s9, eon, Option.bind_some, qs_b0, Bool.true_eq_false, qa_lit, qa_eqT]
        rfl
      · by_cases hc : qs_kd (w.1 84) f = 2
        · rw [if_pos hc, ← qj_w2 _ x3 (by omega)]
          rw [hc] at sk
          have ol := qj_ohl _ x3
          have e3 := qj_s3 _ ol
          have e34 := qj_34 _ ol
          by_cases hq : qs_x (w.1 84) t f = 3 * 4 ^ qs_oh (qs_x (w.1 84) t f)
          · rw [decide_eq_true hq, Bool.true_and]
            have hq2 : (nI (qs_x (w.1 84) t f) = nI (3 * 4 ^ qs_oh (qs_x (w.1 84) t f))) = True := eq_true (congrArg nI hq)
            simp (disch := omega) only [↓reduceIte, ↓qa_b, zJ_isHeldAsWanted_L2, zJ_wantedWith, s4, qa_ltT, pk_mul, nI_add, qa_ix, qa_cl, s9, eon, Option.bind_some, qs_b0, Bool.true_eq_false, qa_lit, qa_eqF, qa_eqT, sk, eow, qa_31, e3, hq2]
            exact ih
          · rw [decide_eq_false hq, Bool.false_and]
            have hq2 : (nI (qs_x (w.1 84) t f) = nI (3 * 4 ^ qs_oh (qs_x (w.1 84) t f))) = False := eq_false (fun q => hq ((nI_eq (by omega) (by omega)).mp q))
            simp (disch := omega) only [↓reduceIte, ↓qa_b, zJ_isHeldAsWanted_L2, zJ_wantedWith, s4, qa_ltT, pk_mul, nI_add, qa_ix, qa_cl, s9, eon, Option.bind_some, qs_b0, Bool.true_eq_false, qa_lit, qa_eqF, qa_eqT, sk, eow, qa_31, e3, hq2]
            rfl
        · rw [if_neg hc, ← qj_w1 _ x3 (by omega)]
          by_cases hq : nI (qs_x (w.1 84) t f) = nI (qs_x (w.1 84) t f) &&& -(nI (qs_x (w.1 84) t f))
          · rw [decide_eq_true hq, Bool.true_and]
            have hq2 : (nI (qs_x (w.1 84) t f) = nI (qs_x (w.1 84) t f) &&& -(nI (qs_x (w.1 84) t f))) = True := eq_true hq
            simp (disch := omega) only [↓reduceIte, ↓qa_b, zJ_isHeldAsWanted_L2, zJ_wantedWith, s4, qa_ltT, pk_mul, nI_add, qa_ix, qa_cl, s9, eon, Option.bind_some, qs_b0, Bool.true_eq_false, qa_lit, qa_eqF, sk, hq2]
            exact ih
          · rw [decide_eq_false hq, Bool.false_and]
            simp (disch := omega) only [↓reduceIte, ↓qa_b, zJ_isHeldAsWanted_L2, zJ_wantedWith, s4, qa_ltT, pk_mul, nI_add, qa_ix, qa_cl, s9, eon, Option.bind_some, qs_b0, Bool.true_eq_false, qa_lit, qa_eqF, sk, hq]
            rfl
theorem qm_j1 (HA : qi_a L P pn fn tn bn (w.1 84)) (hP : P ≤ 8) {t f : Nat} (ht : t < bn) (hf : f < fn) : zM_isAsWanted (nI t) (nI f) w = some (qs_b (qj_1 (w.1 84) t f)) := by
  obtain ⟨a0, a1, a4, a6, lpn, lfn, ltn, lbn⟩ := HA.1
  obtain ⟨x1, x2, x3⟩ := qi_x HA ht hf
  obtain ⟨k1, k2⟩ := qi_kd HA hf
  have eh := qm_heldBy (w := w) (t := t) (f := f) (by omega) (by omega)
  have ep := qm_placeOf (w := w) (t := t) (f := f) (by omega) (by omega)
  have ek := qm_kindOf (w := w) (f := f) (by omega)
  have eb := qm_bits x3
  rw [x1] at eh
  rw [k1] at ek
  unfold qj_1 qj_w
  rcases qi_pl HA hP ht hf with ⟨ho, hp⟩ | ⟨ho, y, hy, hp⟩
  · rw [ho]
    rw [hp] at ep
    by_cases h0 : qs_x (w.1 84) t f = 0
    · simp (disch := omega) only [↓reduceIte, zM_isAsWanted, eh, ep, Option.bind_some, qa_Nlt0, qa_lit, qa_eqT, Bool.false_eq_true, h0, decide_true]
      rfl
    · simp (disch := omega) only [↓reduceIte, zM_isAsWanted, eh, ep, Option.bind_some, qa_Nlt0, qa_lit, qa_eqF, Bool.false_eq_true, h0, decide_false]
      rfl
  · rw [ho]
    rw [hp] at ep
    by_cases hc : qs_kd (w.1 84) f = 2
    · rw [hc] at ek
      by_cases h3 : qs_x (w.1 84) t f = 3
      · simp (disch := omega) only [↓reduceIte, zM_isAsWanted, eh, ep, ek, Option.bind_some, qa_ltF, qa_lit, qa_eqT, hc, h3, true_or, decide_true]
        rfl
      · by_cases h12 : qs_x (w.1 84) t f = 12
        · simp (disch := omega) only [↓reduceIte, zM_isAsWanted, eh, ep, ek, Option.bind_some, qa_ltF, qa_lit, qa_eqT, qa_eqF, hc, h12, true_or, or_true, decide_true]
          rfl
        · by_cases h48 : qs_x (w.1 84) t f = 48
          · simp (disch := omega) only [↓reduceIte, zM_isAsWanted, eh, ep, ek, Option.bind_some, qa_ltF, qa_lit, qa_eqT, qa_eqF, hc, h48, or_true, decide_true]
            rfl
          · simp (disch := omega) only [↓reduceIte, zM_isAsWanted, eh, ep, ek, Option.bind_some, qa_ltF, qa_lit, qa_eqT, qa_eqF, hc, h3, h12, h48, or_self, decide_false]
            rfl
    · have bb : qs_bn (qs_x (w.1 84) t f) < 100 := by unfold qs_bn; omega
      by_cases hb : qs_bn (qs_x (w.1 84) t f) = 1
      · simp (disch := omega) only [↓reduceIte, zM_isAsWanted, eh, ep, ek, eb, Option.bind_some, qa_ltF, qa_lit, qa_eqT, qa_eqF, hc, hb, decide_true]
        rfl
      · simp (disch := omega) only [↓reduceIte, zM_isAsWanted, eh, ep, ek, eb, Option.bind_some, qa_ltF, qa_lit, qa_eqF, hc, hb, decide_false]
        rfl
theorem qh_j2 (HA : qi_a L P pn fn tn bn (w.1 84)) (HS : qi_stg 0 P pn fn tn bn h (w.1 84)) {t : Nat} (ht : t < bn) : ∀ (k n f : Nat), f + k = fn → k < n → zJ_isHeldApart_L4 n (nI t) (nI (qs_by (w.1 84) t f)) (nI f) h = some (qs_b (qs_all (qj_2 (w.1 84) t) f k))
  | 0, n + 1, f, hf, _ => by
    obtain ⟨a0, a1, a4, a6, lpn, lfn, ltn, lbn⟩ := HA.1
    have s4 := (qi_stg0 HS).1.2.2.1
    simp (disch := omega) only [↓reduceIte, ↓qa_b, qa_b, qa_lit, qa_neg1, qa_qN, nI_add, pk_mul, qa_ix, qa_cl, qa_ltT, qa_ltF, qa_eqT, qa_eqF, qa_nN, qa_Nn, qa_ltN, qa_Nlt, qa_NN, qa_ltNN, qa_sub, qa_dec, qa_dec0, qa_sub0, qa_incN, qa_31, qa_shr, qa_shl, qa_and1, va_up_self, qa_une, pk_us, pk_un, qa_up2, qa_upd2, Option.bind_some, if_true, if_false, and_true, true_and, and_self, qa_f1, qa_f2, zJ_isHeldApart_L4, s4, qs_all]
    rfl
  | k + 1, n + 1, f, hf, hn => by
    obtain ⟨a0, a1, a4, a6, lpn, lfn, ltn, lbn⟩ := HA.1
    have s4 := (qi_stg0 HS).1.2.2.1
    have ih := qh_j2 HA HS ht k n (f + 1) (by omega) (by omega)
    obtain ⟨x1, x2, x3⟩ := qi_x HA ht (show f < fn by omega)
    have s9 := ((qi_stg0 HS).2.2.2.2.1 t f ht (by omega)).2
    rw [x1] at s9
    rw [qs_by_s] at ih
    have zl : qs_by (w.1 84) t f &&& qs_x (w.1 84) t f < 64 := Nat.lt_of_le_of_lt Nat.and_le_right x3
    unfold qs_all qj_2
    by_cases h0 : qs_by (w.1 84) t f &&& qs_x (w.1 84) t f = 0
    · rw [decide_eq_true h0, Bool.true_and]
      simp (disch := omega) only [↓reduceIte, ↓qa_b, zJ_isHeldApart_L4, s4, qa_ltT, pk_mul, nI_add, qa_ix, qa_cl, s9, qa_lit, fa_and, fa_or, h0]
      exact ih
    · rw [decide_eq_false h0, Bool.false_and]
      simp (disch := omega) only [↓reduceIte, ↓qa_b, zJ_isHeldApart_L4, s4, qa_ltT, pk_mul, nI_add, qa_ix, qa_cl, s9, qa_lit, fa_and, qa_eqF]
      rfl
theorem qm_j2 (HA : qi_a L P pn fn tn bn (w.1 84)) {t : Nat} (ht : t < bn) : ∀ (k n f : Nat), f + k = fn → k < n → zM_holdsTwo_L4 n (nI t) (nI (qs_by (w.1 84) t f)) (nI f) w = some (qs_b (!qs_all (qj_2 (w.1 84) t) f k))
  | 0, n + 1, f, hf, _ => by
    obtain ⟨a0, a1, a4, a6, lpn, lfn, ltn, lbn⟩ := HA.1
    simp (disch := omega) only [↓reduceIte, ↓qa_b, qa_b, qa_lit, qa_neg1, qa_qN, nI_add, pk_mul, qa_ix, qa_cl, qa_ltT, qa_ltF, qa_eqT, qa_eqF, qa_nN, qa_Nn, qa_ltN, qa_Nlt, qa_NN, qa_ltNN, qa_sub, qa_dec, qa_dec0, qa_sub0, qa_incN, qa_31, qa_shr, qa_shl, qa_and1, va_up_self, qa_une, pk_us, pk_un, qa_up2, qa_upd2, Option.bind_some, if_true, if_false, and_true, true_and, and_self, qa_f1, qa_f2, zM_holdsTwo_L4, a1, qs_all]
    rfl
  | k + 1, n + 1, f, hf, hn => by
    obtain ⟨a0, a1, a4, a6, lpn, lfn, ltn, lbn⟩ := HA.1
    have ih := qm_j2 HA ht k n (f + 1) (by omega) (by omega)
    obtain ⟨x1, x2, x3⟩ := qi_x HA ht (show f < fn by omega)
    have eh := qm_heldBy (w := w) (t := t) (f := f) (by omega) (by omega)
    rw [x1] at eh
    rw [qs_by_s] at ih
    have zl : qs_by (w.1 84) t f &&& qs_x (w.1 84) t f < 64 := Nat.lt_of_le_of_lt Nat.and_le_right x3
    unfold qs_all qj_2
    by_cases h0 : qs_by (w.1 84) t f &&& qs_x (w.1 84) t f = 0
    · rw [decide_eq_true h0, Bool.true_and]
      simp (disch := omega) only [↓reduceIte, ↓qa_b, zM_holdsTwo_L4, a1, qa_ltT, nI_add, eh, Option.bind_some, qa_lit, fa_and, fa_or, h0]
      exact ih
    · rw [decide_eq_false h0, Bool.false_and]
      simp (disch := omega) only [↓reduceIte, ↓qa_b, zM_holdsTwo_L4, a1, qa_ltT, nI_add, eh, Option.bind_some, qa_lit, fa_and, qa_eqF]
      rfl
end
