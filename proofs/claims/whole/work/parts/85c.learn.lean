/-! THE HEART: what the class learns of holds -/
def qs_hn (a : Nat → Int32) (pn f : Nat) : Nat := if qs_kd a f = 2 then pn else 2 * pn
def qs_ow (a : Nat → Int32) (f k : Nat) : Nat := if qs_kd a f = 2 then k else k / 2
def qs_rt (a : Nat → Int32) (f k : Nat) : Nat := if qs_kd a f = 2 then 0 else k % 2
def qs_nr (a : Nat → Int32) (pn t f k : Nat) : Bool := decide (k < qs_hn a pn f) && qs_rc a (qs_ow a f k) (qs_pl a t f)
def qs_ft (a tx : Nat → Int32) (pn t f k : Nat) : Bool := qs_nr a pn t f k && qs_law a tx 0 t f (qs_ow a f k) (qs_rt a f k)
theorem qa_1shl {i : Nat} (hi : i < 31) : nI 1 <<< nI i = nI (2 ^ i) := by
  have hp : 2 ^ i ≤ 2 ^ 30 := Nat.pow_le_pow_right (by omega) (by omega)
  rw [qa_shl (by omega) (by omega), Nat.one_mul]
/-- a row of bits: the first i of them -/
def qk_bits (x i : Nat) (b : Nat → Bool) : Prop := x < 64 ∧ ∀ k, k < 6 → x.testBit k = (decide (k < i) && b k)
theorem qk_bits_0 (b : Nat → Bool) : qk_bits 0 0 b := ⟨by omega, fun k _ => by simp⟩
theorem qk_bits_f {x i : Nat} {b : Nat → Bool} (h : qk_bits x i b) (hb : b i = false) : qk_bits x (i + 1) b := ⟨h.1, fun k hk => by
  rw [h.2 k hk]
  by_cases e : k = i
  · subst e; simp [hb]
  · have : decide (k < i + 1) = decide (k < i) := by
      apply decide_eq_decide.mpr; omega
    rw [this]⟩
theorem qk_bits_t {x i : Nat} {b : Nat → Bool} (hi : i < 6) (h : qk_bits x i b) (hb : b i = true) : qk_bits (x ||| 2 ^ i) (i + 1) b := ⟨Nat.or_lt_two_pow (n := 6) h.1 (Nat.pow_lt_pow_right (by omega) hi), fun k hk => by
  rw [Nat.testBit_or, h.2 k hk]
  by_cases e : k = i
  · subst e; simp [hb, Nat.testBit_two_pow_self]
  · have h1 : decide (k < i + 1) = decide (k < i) := by
      apply decide_eq_decide.mpr; omega
    rw [h1, Nat.testBit_two_pow_of_ne (by omega), Bool.or_false]⟩
/-- a heap that differs in names, values and one cell's holds -/
def qk_fr (c : Nat) (h h' : Nat → Nat → Int32) : Prop := (∀ c', c' ≤ 59 → h' c' = h c') ∧ (∀ c', 65 ≤ c' → h' c' = h c') ∧ h' 64 = h 64 ∧ (∀ j, j ≠ c → h' 62 j = h 62 j ∧ h' 63 j = h 63 j)
theorem qk_fr.tr {c : Nat} {h h' h'' : Nat → Nat → Int32} (a : qk_fr c h h') (b : qk_fr c h' h'') : qk_fr c h h'' := ⟨fun q hq => (b.1 q hq).trans (a.1 q hq), fun q hq => (b.2.1 q hq).trans (a.2.1 q hq), b.2.2.1.trans a.2.2.1, fun j hj => ⟨(b.2.2.2 j hj).1.trans (a.2.2.2 j hj).1, (b.2.2.2 j hj).2.trans (a.2.2.2 j hj).2⟩⟩
/-- the names of a case -/
def qk_nm (a : Nat → Int32) (t f : Nat) (h : Nat → Nat → Int32) : Prop := h 60 12 = nI f ∧ h 60 13 = nI (qs_kd a f) ∧ h 60 14 = nI (qs_pl a t f) ∧ h 60 10 = nI t
section
variable {L P pn fn tn bn : Nat} {h : Nat → Nat → Int32} {w : zHM}
theorem qh_reach (HA : qi_a L P pn fn tn bn (w.1 84)) (HS : qi_stg 0 P pn fn tn bn h (w.1 84)) (hP : P ≤ 8) {p pl : Nat} (hp : p < pn) (hpl : pl < 8) : zG_isInReach (nI p) (nI pl) h = some (qs_b (qs_rc (w.1 84) p pl)) := by
  obtain ⟨a0, a1, a4, a6, lpn, lfn, ltn, lbn⟩ := HA.1
  obtain ⟨h1, h2, h3, h4⟩ := qi_hr HA hP hp
  obtain ⟨s1, s2⟩ := (qi_stg0 HS).2.1 p hp
  rw [h1] at s1
  rw [h3] at s2
  have e8 := qh_rc8 pl hpl (qv (w.1 84) (10 + 2 * p)) h2 (qv (w.1 84) (10 + 2 * p + 1)) h4
  have eR : qs_rc (w.1 84) p pl = decide (pl ≤ qv (w.1 84) (10 + 2 * p) + qv (w.1 84) (10 + 2 * p + 1) ∧ qv (w.1 84) (10 + 2 * p) ≤ pl + qv (w.1 84) (10 + 2 * p + 1)) := rfl
  rw [← eR] at e8
  cases hr : qs_rc (w.1 84) p pl
  · rw [hr] at e8
    simp (disch := omega) only [↓reduceIte, ↓qa_b, zG_isInReach, qa_ix, qa_cl, s1, s2, e8, qa_lit]
    rfl
  · rw [hr] at e8
    simp (disch := omega) only [↓reduceIte, ↓qa_b, zG_isInReach, qa_ix, qa_cl, s1, s2, e8, qa_lit, Bool.true_eq_false]
    rfl
theorem qk_holdsL (HA : qi_a L P pn fn tn bn (w.1 84)) (hP : P ≤ 8) {x t f : Nat} (ht : t < bn) (hf : f < fn) (ho : qs_on (w.1 84) t f = true) (hx : x ≤ 48) : ∀ (k n i : Nat) (h : Nat → Nat → Int32) (xn xf : Nat), i + k = qs_hn (w.1 84) pn f → k < n → qi_stg 0 P pn fn tn bn h (w.1 84) → qk_askH x h (w.1 84) (w.1 86) → qk_nm (w.1 84) t f h → h 62 (t * 6 + f) = nI xn → h 63 (t * 6 + f) = nI xf → qk_bits xn i (qs_nr (w.1 84) pn t f) → qk_bits xf i (qs_ft (w.1 84) (w.1 86) pn t f) →
    ∃ h' xn' xf', zL_learnHolds_L31 n x (nI (t * 6 + f)) (nI (qs_kd (w.1 84) f)) (nI (qs_hn (w.1 84) pn f)) (nI i) h = some h' ∧ qk_fr (t * 6 + f) h h' ∧ qk_nm (w.1 84) t f h' ∧ h' 62 (t * 6 + f) = nI xn' ∧ h' 63 (t * 6 + f) = nI xf' ∧ qk_bits xn' (qs_hn (w.1 84) pn f) (qs_nr (w.1 84) pn t f) ∧ qk_bits xf' (qs_hn (w.1 84) pn f) (qs_ft (w.1 84) (w.1 86) pn t f)
  | 0, n + 1, i, h, xn, xf, hi, _, HS, hask, hnm, e62, e63, b1, b2 => by
    have : i = qs_hn (w.1 84) pn f := by omega
    subst this
    have hb : qs_hn (w.1 84) pn f ≤ 6 := by
      have := HA.1
      unfold qs_hn
      split <;> omega
    refine ⟨h, xn, xf, ?_, ⟨fun _ _ => rfl, fun _ _ => rfl, rfl, fun _ _ => ⟨rfl, rfl⟩⟩, hnm, e62, e63, b1, b2⟩
    simp (disch := omega) only [↓reduceIte, ↓qa_b, qa_b, qa_lit, qa_neg1, qa_qN, nI_add, pk_mul, qa_ix, qa_cl, qa_ltT, qa_ltF, qa_eqT, qa_eqF, qa_nN, qa_Nn, qa_ltN, qa_Nlt, qa_NN, qa_ltNN, qa_sub, qa_dec, qa_dec0, qa_sub0, qa_incN, qa_31, qa_shr, qa_shl, qa_and1, va_up_self, qa_une, pk_us, pk_un, qa_up2, qa_upd2, Option.bind_some, if_true, if_false, and_true, true_and, and_self, qa_f1, qa_f2, zL_learnHolds_L31]
  | k + 1, n + 1, i, h, xn, xf, hi, hn, HS, hask, hnm, e62, e63, b1, b2 => by
    obtain ⟨a0, a1, a4, a6, lpn, lfn, ltn, lbn⟩ := HA.1
    have hb : qs_hn (w.1 84) pn f ≤ 6 := by
      unfold qs_hn
      split <;> omega
    obtain ⟨k1, k2⟩ := qi_kd HA hf
    obtain ⟨p1, p2, p3⟩ := qi_plc HA hP ht hf ho
    obtain ⟨m1, m2, m3, m4⟩ := id hnm
    have how : qs_ow (w.1 84) f i < pn := by
      unfold qs_hn at hi
      unfold qs_ow
      split at hi <;> rename_i hc
      · rw [if_pos hc]; omega
      · rw [if_neg hc]; omega
    have eo : zH_ownerOf (nI (qs_kd (w.1 84) f)) (nI i) = nI (qs_ow (w.1 84) f i) := by
      unfold zH_ownerOf qs_ow
      by_cases hc : qs_kd (w.1 84) f = 2
      · rw [if_pos hc, hc]
        simp (disch := omega) only [↓reduceIte, ↓qa_b, qa_b, qa_lit, qa_neg1, qa_qN, nI_add, pk_mul, qa_ix, qa_cl, qa_ltT, qa_ltF, qa_eqT, qa_eqF, qa_nN, qa_Nn, qa_ltN, qa_Nlt, qa_NN, qa_ltNN, qa_sub, qa_dec, qa_dec0, qa_sub0, qa_incN, qa_31, qa_shr, qa_shl, qa_and1, va_up_self, qa_une, pk_us, pk_un, qa_up2, qa_upd2, Option.bind_some, if_true, if_false, and_true, true_and, and_self, qa_f1, qa_f2]
      · rw [if_neg hc]
        simp (disch := omega) only [↓reduceIte, ↓qa_b, qa_b, qa_lit, qa_neg1, qa_qN, nI_add, pk_mul, qa_ix, qa_cl, qa_ltT, qa_ltF, qa_eqT, qa_eqF, qa_nN, qa_Nn, qa_ltN, qa_Nlt, qa_NN, qa_ltNN, qa_sub, qa_dec, qa_dec0, qa_sub0, qa_incN, qa_31, qa_shr, qa_shl, qa_and1, va_up_self, qa_une, pk_us, pk_un, qa_up2, qa_upd2, Option.bind_some, if_true, if_false, and_true, true_and, and_self, qa_f1, qa_f2, Nat.pow_one]
    have er := qh_reach HA HS hP how p3
    have eN : qs_nr (w.1 84) pn t f i = qs_rc (w.1 84) (qs_ow (w.1 84) f i) (qs_pl (w.1 84) t f) := by
      unfold qs_nr
      rw [decide_eq_true (show i < qs_hn (w.1 84) pn f by omega), Bool.true_and]
    cases hr : qs_rc (w.1 84) (qs_ow (w.1 84) f i) (qs_pl (w.1 84) t f)
    · rw [hr] at er eN
      have eF : qs_ft (w.1 84) (w.1 86) pn t f i = false := by unfold qs_ft; rw [eN, Bool.false_and]
      obtain ⟨h', xn', xf', e, r⟩ := qk_holdsL HA hP ht hf ho hx k n (i + 1) h xn xf (by omega) (by omega) HS hask hnm e62 e63 (qk_bits_f b1 eN) (qk_bits_f b2 eF)
      refine ⟨h', xn', xf', ?_, r⟩
      simp (disch := omega) only [↓reduceIte, ↓qa_b, zL_learnHolds_L31, qa_ltT, eo, m3, er, Option.bind_some, qs_b0, qa_lit, nI_add]
      exact e
    · rw [hr] at er eN
      have eS := qa_1shl (i := i) (by omega)
      have h1 : ∃ h1 : Nat → Nat → Int32, h1 = va_up (va_up h 62 (upd (h 62) (t * 6 + f) (nI (xn ||| 2 ^ i)))) 60 (upd (upd (h 60) 15 (nI (qs_ow (w.1 84) f i))) 16 (nI (qs_rt (w.1 84) f i))) := ⟨_, rfl⟩
      obtain ⟨h1, eh1⟩ := h1
      have fr1 : ∀ c, c ≤ 59 → h1 c = h c := fun c hc => by
        rw [eh1]
        simp (disch := omega) only [↓reduceIte, ↓qa_b, qa_b, qa_lit, qa_neg1, qa_qN, nI_add, pk_mul, qa_ix, qa_cl, qa_ltT, qa_ltF, qa_eqT, qa_eqF, qa_nN, qa_Nn, qa_ltN, qa_Nlt, qa_NN, qa_ltNN, qa_sub, qa_dec, qa_dec0, qa_sub0, qa_incN, qa_31, qa_shr, qa_shl, qa_and1, va_up_self, qa_une, pk_us, pk_un, qa_up2, qa_upd2, Option.bind_some, if_true, if_false, and_true, true_and, and_self, qa_f1, qa_f2]
      have rtb : qs_rt (w.1 84) f i < 2 := by unfold qs_rt; split <;> omega
      obtain ⟨g, eq, -⟩ : ∃ g, zL_isSo x (nI 3) h1 = some (qs_b (qs_law (w.1 84) (w.1 86) 0 t f (qs_ow (w.1 84) f i) (qs_rt (w.1 84) f i)), va_up h1 61 g) ∧ True := by
        obtain ⟨g, e⟩ := hask 0 h1 (qn_c f (qs_kd (w.1 84) f) (qs_pl (w.1 84) t f) t (qs_ow (w.1 84) f i : Nat) (qs_rt (w.1 84) f i : Nat)) (by omega) (fun c hc => fr1 c (by omega)) (fun v hv => by
          rw [eh1]
          rcases (show v = 0 ∨ v = 1 ∨ v = 2 ∨ v = 3 ∨ v = 4 ∨ v = 5 by omega) with rfl | rfl | rfl | rfl | rfl | rfl
          · rw [show qi_nm 0 = 12 from rfl]
            simp (disch := omega) only [↓reduceIte, ↓qa_b, qa_b, qa_lit, qa_neg1, qa_qN, nI_add, pk_mul, qa_ix, qa_cl, qa_ltT, qa_ltF, qa_eqT, qa_eqF, qa_nN, qa_Nn, qa_ltN, qa_Nlt, qa_NN, qa_ltNN, qa_sub, qa_dec, qa_dec0, qa_sub0, qa_incN, qa_31, qa_shr, qa_shl, qa_and1, va_up_self, qa_une, pk_us, pk_un, qa_up2, qa_upd2, Option.bind_some, if_true, if_false, and_true, true_and, and_self, qa_f1, qa_f2, m1]
            exact ⟨nI_toInt (by omega), qn_sm (by show 0 ≤ (f : Int) ∧ (f : Int) ≤ 100; omega)⟩
          · rw [show qi_nm 1 = 13 from rfl]
            simp (disch := omega) only [↓reduceIte, ↓qa_b, qa_b, qa_lit, qa_neg1, qa_qN, nI_add, pk_mul, qa_ix, qa_cl, qa_ltT, qa_ltF, qa_eqT, qa_eqF, qa_nN, qa_Nn, qa_ltN, qa_Nlt, qa_NN, qa_ltNN, qa_sub, qa_dec, qa_dec0, qa_sub0, qa_incN, qa_31, qa_shr, qa_shl, qa_and1, va_up_self, qa_une, pk_us, pk_un, qa_up2, qa_upd2, Option.bind_some, if_true, if_false, and_true, true_and, and_self, qa_f1, qa_f2, m2]
            exact ⟨nI_toInt (by omega), qn_sm (by show 0 ≤ (qs_kd (w.1 84) f : Int) ∧ (qs_kd (w.1 84) f : Int) ≤ 100; omega)⟩
          · rw [show qi_nm 2 = 14 from rfl]
            simp (disch := omega) only [↓reduceIte, ↓qa_b, qa_b, qa_lit, qa_neg1, qa_qN, nI_add, pk_mul, qa_ix, qa_cl, qa_ltT, qa_ltF, qa_eqT, qa_eqF, qa_nN, qa_Nn, qa_ltN, qa_Nlt, qa_NN, qa_ltNN, qa_sub, qa_dec, qa_dec0, qa_sub0, qa_incN, qa_31, qa_shr, qa_shl, qa_and1, va_up_self, qa_une, pk_us, pk_un, qa_up2, qa_upd2, Option.bind_some, if_true, if_false, and_true, true_and, and_self, qa_f1, qa_f2, m3]
            exact ⟨nI_toInt (by omega), qn_sm (by show 0 ≤ (qs_pl (w.1 84) t f : Int) ∧ (qs_pl (w.1 84) t f : Int) ≤ 100; omega)⟩
          · rw [show qi_nm 3 = 10 from rfl]
            simp (disch := omega) only [↓reduceIte, ↓qa_b, qa_b, qa_lit, qa_neg1, qa_qN, nI_add, pk_mul, qa_ix, qa_cl, qa_ltT, qa_ltF, qa_eqT, qa_eqF, qa_nN, qa_Nn, qa_ltN, qa_Nlt, qa_NN, qa_ltNN, qa_sub, qa_dec, qa_dec0, qa_sub0, qa_incN, qa_31, qa_shr, qa_shl, qa_and1, va_up_self, qa_une, pk_us, pk_un, qa_up2, qa_upd2, Option.bind_some, if_true, if_false, and_true, true_and, and_self, qa_f1, qa_f2, m4]
            exact ⟨nI_toInt (by omega), qn_sm (by show 0 ≤ (t : Int) ∧ (t : Int) ≤ 100; omega)⟩
          · rw [show qi_nm 4 = 15 from rfl]
            simp (disch := omega) only [↓reduceIte, ↓qa_b, qa_b, qa_lit, qa_neg1, qa_qN, nI_add, pk_mul, qa_ix, qa_cl, qa_ltT, qa_ltF, qa_eqT, qa_eqF, qa_nN, qa_Nn, qa_ltN, qa_Nlt, qa_NN, qa_ltNN, qa_sub, qa_dec, qa_dec0, qa_sub0, qa_incN, qa_31, qa_shr, qa_shl, qa_and1, va_up_self, qa_une, pk_us, pk_un, qa_up2, qa_upd2, Option.bind_some, if_true, if_false, and_true, true_and, and_self, qa_f1, qa_f2]
            exact ⟨nI_toInt (by omega), qn_sm (by show 0 ≤ ((qs_ow (w.1 84) f i : Nat) : Int) ∧ ((qs_ow (w.1 84) f i : Nat) : Int) ≤ 100; omega)⟩
          · rw [show qi_nm 5 = 16 from rfl]
            simp (disch := omega) only [↓reduceIte, ↓qa_b, qa_b, qa_lit, qa_neg1, qa_qN, nI_add, pk_mul, qa_ix, qa_cl, qa_ltT, qa_ltF, qa_eqT, qa_eqF, qa_nN, qa_Nn, qa_ltN, qa_Nlt, qa_NN, qa_ltNN, qa_sub, qa_dec, qa_dec0, qa_sub0, qa_incN, qa_31, qa_shr, qa_shl, qa_and1, va_up_self, qa_une, pk_us, pk_un, qa_up2, qa_upd2, Option.bind_some, if_true, if_false, and_true, true_and, and_self, qa_f1, qa_f2]
            exact ⟨nI_toInt (by omega), qn_sm (by show 0 ≤ ((qs_rt (w.1 84) f i : Nat) : Int) ∧ ((qs_rt (w.1 84) f i : Nat) : Int) ≤ 100; omega)⟩)
        exact ⟨g, e, trivial⟩
      have eF : qs_ft (w.1 84) (w.1 86) pn t f i = qs_law (w.1 84) (w.1 86) 0 t f (qs_ow (w.1 84) f i) (qs_rt (w.1 84) f i) := by unfold qs_ft; rw [eN, Bool.true_and]
      have step : zL_learnHolds_L31 (n + 1) x (nI (t * 6 + f)) (nI (qs_kd (w.1 84) f)) (nI (qs_hn (w.1 84) pn f)) (nI i) h = if qs_law (w.1 84) (w.1 86) 0 t f (qs_ow (w.1 84) f i) (qs_rt (w.1 84) f i) then zL_learnHolds_L31 n x (nI (t * 6 + f)) (nI (qs_kd (w.1 84) f)) (nI (qs_hn (w.1 84) pn f)) (nI (i + 1)) (va_up (va_up h1 61 g) 63 (upd (h 63) (t * 6 + f) (nI (xf ||| 2 ^ i)))) else zL_learnHolds_L31 n x (nI (t * 6 + f)) (nI (qs_kd (w.1 84) f)) (nI (qs_hn (w.1 84) pn f)) (nI (i + 1)) (va_up h1 61 g) := by
        have e63' : h1 63 = h 63 := by
          rw [eh1]
          simp (disch := omega) only [↓reduceIte, ↓qa_b, qa_b, qa_lit, qa_neg1, qa_qN, nI_add, pk_mul, qa_ix, qa_cl, qa_ltT, qa_ltF, qa_eqT, qa_eqF, qa_nN, qa_Nn, qa_ltN, qa_Nlt, qa_NN, qa_ltNN, qa_sub, qa_dec, qa_dec0, qa_sub0, qa_incN, qa_31, qa_shr, qa_shl, qa_and1, va_up_self, qa_une, pk_us, pk_un, qa_up2, qa_upd2, Option.bind_some, if_true, if_false, and_true, true_and, and_self, qa_f1, qa_f2]
        by_cases hc : qs_kd (w.1 84) f = 2
        · have hrt : qs_rt (w.1 84) f i = 0 := by unfold qs_rt; rw [if_pos hc]
          rw [hrt] at eh1 eq ⊢
          rw [hc] at eo ⊢
          simp (disch := omega) only [↓reduceIte, ↓qa_b, zL_learnHolds_L31, zL_learnHolds_J105, qa_ltT, qa_eqT, eo, m3, er, Option.bind_some, qs_b0, qa_lit, nI_add, Bool.true_eq_false, qa_ix, qa_cl, qa_31, eS, e62, fa_or, va_up_self, qa_up2, qa_une, ← eh1, eq, e63', e63, qa_f1, qa_f2]
          cases qs_law (w.1 84) (w.1 86) 0 t f (qs_ow (w.1 84) f i) 0 <;> simp
        · have hrt : qs_rt (w.1 84) f i = i % 2 := by unfold qs_rt; rw [if_neg hc]
          rw [hrt] at eh1 eq ⊢
          simp (disch := omega) only [↓reduceIte, ↓qa_b, zL_learnHolds_L31, zL_learnHolds_J105, qa_ltT, qa_eqF, eo, m3, er, Option.bind_some, qs_b0, qa_lit, nI_add, Bool.true_eq_false, qa_ix, qa_cl, qa_31, eS, e62, fa_or, va_up_self, qa_up2, qa_une, qa_and1, ← eh1, eq, e63', e63, qa_f1, qa_f2]
          cases qs_law (w.1 84) (w.1 86) 0 t f (qs_ow (w.1 84) f i) (i % 2) <;> simp
      have frA : qk_fr (t * 6 + f) h (va_up h1 61 g) := ⟨fun c hc => by rw [qa_une _ _ (by omega)]; exact fr1 c hc, fun c hc => by rw [eh1]; simp (disch := omega) only [↓reduceIte, ↓qa_b, qa_b, qa_lit, qa_neg1, qa_qN, nI_add, pk_mul, qa_ix, qa_cl, qa_ltT, qa_ltF, qa_eqT, qa_eqF, qa_nN, qa_Nn, qa_ltN, qa_Nlt, qa_NN, qa_ltNN, qa_sub, qa_dec, qa_dec0, qa_sub0, qa_incN, qa_31, qa_shr, qa_shl, qa_and1, va_up_self, qa_une, pk_us, pk_un, qa_up2, qa_upd2, Option.bind_some, if_true, if_false, and_true, true_and, and_self, qa_f1, qa_f2], by rw [eh1]; simp (disch := omega) only [↓reduceIte, ↓qa_b, qa_b, qa_lit, qa_neg1, qa_qN, nI_add, pk_mul, qa_ix, qa_cl, qa_ltT, qa_ltF, qa_eqT, qa_eqF, qa_nN, qa_Nn, qa_ltN, qa_Nlt, qa_NN, qa_ltNN, qa_sub, qa_dec, qa_dec0, qa_sub0, qa_incN, qa_31, qa_shr, qa_shl, qa_and1, va_up_self, qa_une, pk_us, pk_un, qa_up2, qa_upd2, Option.bind_some, if_true, if_false, and_true, true_and, and_self, qa_f1, qa_f2], fun j hj => by rw [eh1]; simp (disch := omega) only [↓reduceIte, ↓qa_b, qa_b, qa_lit, qa_neg1, qa_qN, nI_add, pk_mul, qa_ix, qa_cl, qa_ltT, qa_ltF, qa_eqT, qa_eqF, qa_nN, qa_Nn, qa_ltN, qa_Nlt, qa_NN, qa_ltNN, qa_sub, qa_dec, qa_dec0, qa_sub0, qa_incN, qa_31, qa_shr, qa_shl, qa_and1, va_up_self, qa_une, pk_us, pk_un, qa_up2, qa_upd2, Option.bind_some, if_true, if_false, and_true, true_and, and_self, qa_f1, qa_f2]⟩
      have nmA : qk_nm (w.1 84) t f (va_up h1 61 g) := by
        unfold qk_nm
        rw [eh1]
        simp (disch := omega) only [↓reduceIte, ↓qa_b, qa_b, qa_lit, qa_neg1, qa_qN, nI_add, pk_mul, qa_ix, qa_cl, qa_ltT, qa_ltF, qa_eqT, qa_eqF, qa_nN, qa_Nn, qa_ltN, qa_Nlt, qa_NN, qa_ltNN, qa_sub, qa_dec, qa_dec0, qa_sub0, qa_incN, qa_31, qa_shr, qa_shl, qa_and1, va_up_self, qa_une, pk_us, pk_un, qa_up2, qa_upd2, Option.bind_some, if_true, if_false, and_true, true_and, and_self, qa_f1, qa_f2, m1, m2, m3, m4]
      have a62 : va_up h1 61 g 62 (t * 6 + f) = nI (xn ||| 2 ^ i) := by
        rw [eh1]
        simp (disch := omega) only [↓reduceIte, ↓qa_b, qa_b, qa_lit, qa_neg1, qa_qN, nI_add, pk_mul, qa_ix, qa_cl, qa_ltT, qa_ltF, qa_eqT, qa_eqF, qa_nN, qa_Nn, qa_ltN, qa_Nlt, qa_NN, qa_ltNN, qa_sub, qa_dec, qa_dec0, qa_sub0, qa_incN, qa_31, qa_shr, qa_shl, qa_and1, va_up_self, qa_une, pk_us, pk_un, qa_up2, qa_upd2, Option.bind_some, if_true, if_false, and_true, true_and, and_self, qa_f1, qa_f2]
      have a63 : va_up h1 61 g 63 (t * 6 + f) = nI xf := by
        rw [eh1]
        simp (disch := omega) only [↓reduceIte, ↓qa_b, qa_b, qa_lit, qa_neg1, qa_qN, nI_add, pk_mul, qa_ix, qa_cl, qa_ltT, qa_ltF, qa_eqT, qa_eqF, qa_nN, qa_Nn, qa_ltN, qa_Nlt, qa_NN, qa_ltNN, qa_sub, qa_dec, qa_dec0, qa_sub0, qa_incN, qa_31, qa_shr, qa_shl, qa_and1, va_up_self, qa_une, pk_us, pk_un, qa_up2, qa_upd2, Option.bind_some, if_true, if_false, and_true, true_and, and_self, qa_f1, qa_f2, e63]
      have askA : ∀ h2 : Nat → Nat → Int32, (∀ c, c ≤ 57 → h2 c = h c) → qk_askH x h2 (w.1 84) (w.1 86) := fun h2 e2 s h' nm hs he hn2 => hask s h' nm hs (fun c hc => (he c hc).trans (e2 c hc)) hn2
      cases hl : qs_law (w.1 84) (w.1 86) 0 t f (qs_ow (w.1 84) f i) (qs_rt (w.1 84) f i)
      · rw [hl] at eF step
        obtain ⟨h', xn', xf', e, r1, r⟩ := qk_holdsL HA hP ht hf ho hx k n (i + 1) (va_up h1 61 g) (xn ||| 2 ^ i) xf (by omega) (by omega) (qi_stg_h (fun c _ hc => frA.1 c (by omega)) HS) (askA _ (fun c hc => frA.1 c (by omega))) nmA a62 a63 (qk_bits_t (by omega) b1 eN) (qk_bits_f b2 eF)
        exact ⟨h', xn', xf', step.trans (by simpa using e), frA.tr r1, r⟩
      · rw [hl] at eF step
        have frB : qk_fr (t * 6 + f) h (va_up (va_up h1 61 g) 63 (upd (h 63) (t * 6 + f) (nI (xf ||| 2 ^ i)))) := ⟨fun c hc => by rw [qa_une _ _ (by omega)]; exact frA.1 c hc, fun c hc => by rw [qa_une _ _ (by omega)]; exact frA.2.1 c hc, by rw [qa_une _ _ (by omega)]; exact frA.2.2.1, fun j hj => ⟨by rw [qa_une _ _ (by omega)]; exact (frA.2.2.2 j hj).1, by rw [va_up_self, pk_un hj]⟩⟩
        have nmB : qk_nm (w.1 84) t f (va_up (va_up h1 61 g) 63 (upd (h 63) (t * 6 + f) (nI (xf ||| 2 ^ i)))) := by
          unfold qk_nm at nmA ⊢
          rw [qa_une _ _ (show 60 ≠ 63 by omega)]
          exact nmA
        obtain ⟨h', xn', xf', e, r1, r⟩ := qk_holdsL HA hP ht hf ho hx k n (i + 1) (va_up (va_up h1 61 g) 63 (upd (h 63) (t * 6 + f) (nI (xf ||| 2 ^ i)))) (xn ||| 2 ^ i) (xf ||| 2 ^ i) (by omega) (by omega) (qi_stg_h (fun c _ hc => frB.1 c (by omega)) HS) (askA _ (fun c hc => frB.1 c (by omega))) nmB (by rw [qa_une _ _ (show 62 ≠ 63 by omega)]; exact a62) (by rw [va_up_self, pk_us]) (qk_bits_t (by omega) b1 eN) (qk_bits_t (by omega) b2 eF)
        exact ⟨h', xn', xf', step.trans (by simpa using e), frB.tr r1, r⟩
end
