/-! THE HEART: what the class learns of passes; all that it learns -/
def qs_st (a : Nat → Int32) (t f : Nat) : Bool := decide (0 < t) && (qs_on a t f && qs_on a (t - 1) f)
def qs_ps (a tx : Nat → Int32) (pn t f p q : Nat) : Bool := (decide (p < pn) && decide (q < pn)) && qs_law a tx 1 t f p q
/-- bits of passes: those ahead of i, j -/
def qk_pb (x i j : Nat) (b : Nat → Nat → Bool) : Prop := x < 512 ∧ ∀ p, p < 3 → ∀ q, q < 3 → x.testBit (p * 3 + q) = ((decide (p < i) || (decide (p = i) && decide (q < j))) && b p q)
theorem qk_pb_f {x i j : Nat} {b : Nat → Nat → Bool} (h : qk_pb x i j b) (hb : b i j = false) : qk_pb x i (j + 1) b := ⟨h.1, fun p hp q hq => by
  rw [h.2 p hp q hq]
  by_cases e : p = i ∧ q = j
  · obtain ⟨rfl, rfl⟩ := e
    rw [hb, Bool.and_false, Bool.and_false]
  · have : (decide (p < i) || (decide (p = i) && decide (q < j + 1))) = (decide (p < i) || (decide (p = i) && decide (q < j))) := by
      rw [Bool.eq_iff_iff]
      simp only [Bool.or_eq_true, Bool.and_eq_true, decide_eq_true_eq]
      omega
    rw [this]⟩
theorem qk_pb_t {x i j : Nat} {b : Nat → Nat → Bool} (hi : i < 3) (hj : j < 3) (h : qk_pb x i j b) (hb : b i j = true) : qk_pb (x ||| 2 ^ (i * 3 + j)) i (j + 1) b := ⟨Nat.or_lt_two_pow (n := 9) h.1 (Nat.pow_lt_pow_right (by omega) (by omega)), fun p hp q hq => by
  rw [Nat.testBit_or, h.2 p hp q hq]
  by_cases e : p = i ∧ q = j
  · obtain ⟨rfl, rfl⟩ := e
    simp [hb, Nat.testBit_two_pow_self]
  · have h1 : (decide (p < i) || (decide (p = i) && decide (q < j + 1))) = (decide (p < i) || (decide (p = i) && decide (q < j))) := by
      rw [Bool.eq_iff_iff]
      simp only [Bool.or_eq_true, Bool.and_eq_true, decide_eq_true_eq]
      omega
    rw [h1, Nat.testBit_two_pow_of_ne (by omega), Bool.or_false]⟩
/-- a heap that differs in names, values and one cell's passes -/
def qk_fp (c : Nat) (h h' : Nat → Nat → Int32) : Prop := (∀ c', c' ≤ 59 → h' c' = h c') ∧ (∀ c', 65 ≤ c' → h' c' = h c') ∧ (h' 62 = h 62 ∧ h' 63 = h 63) ∧ (∀ j, j ≠ c → h' 64 j = h 64 j)
theorem qk_fp.tr {c : Nat} {h h' h'' : Nat → Nat → Int32} (a : qk_fp c h h') (b : qk_fp c h' h'') : qk_fp c h h'' := ⟨fun q hq => (b.1 q hq).trans (a.1 q hq), fun q hq => (b.2.1 q hq).trans (a.2.1 q hq), ⟨b.2.2.1.1.trans a.2.2.1.1, b.2.2.1.2.trans a.2.2.1.2⟩, fun j hj => (b.2.2.2 j hj).trans (a.2.2.2 j hj)⟩
theorem qk_fp.rf (c : Nat) (h : Nat → Nat → Int32) : qk_fp c h h := ⟨fun _ _ => rfl, fun _ _ => rfl, ⟨rfl, rfl⟩, fun _ _ => rfl⟩
theorem qk_askH_h {x : Nat} {h h2 : Nat → Nat → Int32} {a tx : Nat → Int32} (hask : qk_askH x h a tx) (e2 : ∀ c, c ≤ 57 → h2 c = h c) : qk_askH x h2 a tx := fun s h' nm hs he hn2 => hask s h' nm hs (fun c hc => (he c hc).trans (e2 c hc)) hn2
section
variable {L P pn fn tn bn : Nat} {h : Nat → Nat → Int32} {w : zHM}
theorem qk_passI (HA : qi_a L P pn fn tn bn (w.1 84)) (hP : P ≤ 8) {x t f i : Nat} (ht : t < bn) (hf : f < fn) (ho : qs_on (w.1 84) t f = true) (hi : i < pn) (K : Nat → Int32 → Int32 → (Nat → Nat → Int32) → Option (Nat → Nat → Int32)) : ∀ (k n j : Nat) (h : Nat → Nat → Int32) (xp : Nat), j + k = pn → k < n → qi_stg 0 P pn fn tn bn h (w.1 84) → qk_askH x h (w.1 84) (w.1 86) → qk_nm (w.1 84) t f h → h 64 (t * 6 + f) = nI xp → qk_pb xp i j (qs_ps (w.1 84) (w.1 86) pn t f) →
    ∃ h' xp', zL_learnPasses_L15 K n x (nI (t * 6 + f)) (nI i) (nI j) h = K x (nI (t * 6 + f)) (nI (i + 1)) h' ∧ qk_fp (t * 6 + f) h h' ∧ qk_nm (w.1 84) t f h' ∧ h' 64 (t * 6 + f) = nI xp' ∧ qk_pb xp' i pn (qs_ps (w.1 84) (w.1 86) pn t f)
  | 0, n + 1, j, h, xp, hj, _, HS, hask, hnm, e64, b1 => by
    have : j = pn := by omega
    subst this
    obtain ⟨a0, a1, a4, a6, lpn, lfn, ltn, lbn⟩ := HA.1
    have s1 := (qi_stg0 HS).1.2.1
    refine ⟨h, xp, ?_, qk_fp.rf _ h, hnm, e64, b1⟩
    simp (disch := omega) only [↓reduceIte, ↓qa_b, qa_b, qa_lit, qa_neg1, qa_qN, nI_add, pk_mul, qa_ix, qa_cl, qa_ltT, qa_ltF, qa_eqT, qa_eqF, qa_nN, qa_Nn, qa_ltN, qa_Nlt, qa_NN, qa_ltNN, qa_sub, qa_dec, qa_dec0, qa_sub0, qa_incN, qa_31, qa_shr, qa_shl, qa_and1, va_up_self, qa_une, pk_us, pk_un, qa_up2, qa_upd2, Option.bind_some, if_true, if_false, and_true, true_and, and_self, qa_f1, qa_f2, zL_learnPasses_L15, s1]
  | k + 1, n + 1, j, h, xp, hj, hn, HS, hask, hnm, e64, b1 => by
    obtain ⟨a0, a1, a4, a6, lpn, lfn, ltn, lbn⟩ := HA.1
    have s1 := (qi_stg0 HS).1.2.1
    obtain ⟨k1, k2⟩ := qi_kd HA hf
    obtain ⟨p1, p2, p3⟩ := qi_plc HA hP ht hf ho
    obtain ⟨m1, m2, m3, m4⟩ := id hnm
    have eS := qa_1shl (i := i * 3 + j) (by omega)
    have h1 : ∃ h1 : Nat → Nat → Int32, h1 = va_up h 60 (upd (upd (h 60) 17 (nI i)) 18 (nI j)) := ⟨_, rfl⟩
    obtain ⟨h1, eh1⟩ := h1
    have fr1 : ∀ c, c ≠ 60 → h1 c = h c := fun c hc => by
      rw [eh1]
      simp (disch := omega) only [↓reduceIte, ↓qa_b, qa_b, qa_lit, qa_neg1, qa_qN, nI_add, pk_mul, qa_ix, qa_cl, qa_ltT, qa_ltF, qa_eqT, qa_eqF, qa_nN, qa_Nn, qa_ltN, qa_Nlt, qa_NN, qa_ltNN, qa_sub, qa_dec, qa_dec0, qa_sub0, qa_incN, qa_31, qa_shr, qa_shl, qa_and1, va_up_self, qa_une, pk_us, pk_un, qa_up2, qa_upd2, Option.bind_some, if_true, if_false, and_true, true_and, and_self, qa_f1, qa_f2]
    obtain ⟨g, eq⟩ : ∃ g, zL_isSo x (nI 4) h1 = some (qs_b (qs_law (w.1 84) (w.1 86) 1 t f i j), va_up h1 61 g) := hask 1 h1 (qn_c f (qs_kd (w.1 84) f) (qs_pl (w.1 84) t f) t (i : Nat) (j : Nat)) (by omega) (fun c hc => fr1 c (by omega)) (fun v hv => by
      rw [eh1]
      rcases (show v = 0 ∨ v = 1 ∨ v = 2 ∨ v = 3 ∨ v = 6 ∨ v = 7 by omega) with rfl | rfl | rfl | rfl | rfl | rfl
      · rw [show qi_nm 0 = 12 from rfl]
        simp (disch := omega) only [↓reduceIte, ↓qa_b, qa_b, qa_lit, qa_neg1, qa_qN, nI_add, pk_mul, qa_ix, qa_cl, qa_ltT, qa_ltF, qa_eqT, qa_eqF, qa_nN, qa_Nn, qa_ltN, qa_Nlt, qa_NN, qa_ltNN, qa_sub, qa_dec, qa_dec0, qa_sub0, qa_incN, qa_31, qa_shr, qa_shl, qa_and1, va_up_self, qa_une, pk_us, pk_un, qa_up2, qa_upd2, Option.bind_some, if_true, if_false, and_true, true_and, and_self, qa_f1, qa_f2, m1]
        exact ⟨nI_toInt (by omega), qn_sm (by show 0 ≤ (f : Int) ∧ (f : Int) ≤ 100; omega)⟩
      · rw [show qi_nm 1 = 13 from rfl]
        simp (disch := omega) only [↓reduceIte, ↓qa_b, qa_b, qa_lit, qa_neg1, qa_qN, nI_add, pk_mul, qa_ix, qa_cl, qa_ltT, qa_ltF, qa_eqT, qa_eqF, qa_nN, qa_Nn, qa_ltN, qa_Nlt, qa_NN, qa_ltNN, qa_sub, qa_dec, qa_dec0, qa_sub0, qa_incN, qa_31, qa_shr, qa_shl, qa_and1, va_up_self, qa_une, pk_us, pk_un, qa_up2, qa_upd2, Option.bind_some, if_true, if_false, and_true, true_and, and_self, qa_f1, qa_f2, m2]
        exact ⟨nI_toInt (by omega), qn_sm (by show 0 ≤ (qs_kd (w.1 84) f : Int) ∧ (qs_kd (w.1 84) f : Int) ≤ 100; omega)⟩
      · rw [show qi_nm 2 = 14 from rfl]
        simp (disch := omega) only [↓reduceIte, ↓qa_b, qa_b, qa_lit, qa_neg1, qa_qN, nI_add, pk_mul, qa_ix, qa_cl, qa_ltT, qa_ltF, qa_eqT, qa_eqF, qa_nN, qa_Nn, qa_ltN, qa_Nlt, qa_NN, qa_ltNN, qa_sub, qa_dec, qa_dec0, qa_sub0, qa_incN, qa_31, qa_shr, qa_shl, qa_and1, va_up_self, qa_une, pk_us, pk_un, qa_up2, qa_upd2, Option.bind_some, if_true, if_false, and_true, true_and, and_self, qa_f1, qa_f2, m3]
        exact ⟨nI_toInt (by omega), qn_sm (by show 0 ≤ (qs_pl (w.1 84) t f : Int) ∧ (qs_pl (w.1 84) t f : Int) ≤ 100; omega)⟩
      · rw [show qi_nm 3 = 10 from rfl]
        simp (disch := omega) only [↓reduceIte, ↓qa_b, qa_b, qa_lit, qa_neg1, qa_qN, nI_add, pk_mul, qa_ix, qa_cl, qa_ltT, qa_ltF, qa_eqT, qa_eqF, qa_nN, qa_Nn, qa_ltN, qa_Nlt, qa_NN, qa_ltNN, qa_sub, qa_dec, qa_dec0, qa_sub0, qa_incN, qa_31, qa_shr, qa_shl, qa_and1, va_up_self, qa_une, pk_us, pk_un, qa_up2, qa_upd2, Option.bind_some, if_true, if_false, and_true, true_and, and_self, qa_f1, qa_f2, m4]
        exact ⟨nI_toInt (by omega), qn_sm (by show 0 ≤ (t : Int) ∧ (t : Int) ≤ 100; omega)⟩
      · rw [show qi_nm 6 = 17 from rfl]
        simp (disch := omega) only [↓reduceIte, ↓qa_b, qa_b, qa_lit, qa_neg1, qa_qN, nI_add, pk_mul, qa_ix, qa_cl, qa_ltT, qa_ltF, qa_eqT, qa_eqF, qa_nN, qa_Nn, qa_ltN, qa_Nlt, qa_NN, qa_ltNN, qa_sub, qa_dec, qa_dec0, qa_sub0, qa_incN, qa_31, qa_shr, qa_shl, qa_and1, va_up_self, qa_une, pk_us, pk_un, qa_up2, qa_upd2, Option.bind_some, if_true, if_false, and_true, true_and, and_self, qa_f1, qa_f2]
        exact ⟨nI_toInt (by omega), qn_sm (by show 0 ≤ (i : Int) ∧ (i : Int) ≤ 100; omega)⟩
      · rw [show qi_nm 7 = 18 from rfl]
        simp (disch := omega) only [↓reduceIte, ↓qa_b, qa_b, qa_lit, qa_neg1, qa_qN, nI_add, pk_mul, qa_ix, qa_cl, qa_ltT, qa_ltF, qa_eqT, qa_eqF, qa_nN, qa_Nn, qa_ltN, qa_Nlt, qa_NN, qa_ltNN, qa_sub, qa_dec, qa_dec0, qa_sub0, qa_incN, qa_31, qa_shr, qa_shl, qa_and1, va_up_self, qa_une, pk_us, pk_un, qa_up2, qa_upd2, Option.bind_some, if_true, if_false, and_true, true_and, and_self, qa_f1, qa_f2]
        exact ⟨nI_toInt (by omega), qn_sm (by show 0 ≤ (j : Int) ∧ (j : Int) ≤ 100; omega)⟩)
    have eF : qs_ps (w.1 84) (w.1 86) pn t f i j = qs_law (w.1 84) (w.1 86) 1 t f i j := by
      unfold qs_ps
      rw [decide_eq_true hi, decide_eq_true (show j < pn by omega), Bool.true_and, Bool.true_and]
    have frA : qk_fp (t * 6 + f) h (va_up h1 61 g) := ⟨fun c hc => by rw [qa_une _ _ (by omega)]; exact fr1 c (by omega), fun c hc => by rw [qa_une _ _ (by omega)]; exact fr1 c (by omega), ⟨by rw [qa_une _ _ (by omega)]; exact fr1 62 (by omega), by rw [qa_une _ _ (by omega)]; exact fr1 63 (by omega)⟩, fun j hj => by rw [qa_une _ _ (by omega), fr1 64 (by omega)]⟩
    have nmA : qk_nm (w.1 84) t f (va_up h1 61 g) := by
      unfold qk_nm
      rw [eh1]
      simp (disch := omega) only [↓reduceIte, ↓qa_b, qa_b, qa_lit, qa_neg1, qa_qN, nI_add, pk_mul, qa_ix, qa_cl, qa_ltT, qa_ltF, qa_eqT, qa_eqF, qa_nN, qa_Nn, qa_ltN, qa_Nlt, qa_NN, qa_ltNN, qa_sub, qa_dec, qa_dec0, qa_sub0, qa_incN, qa_31, qa_shr, qa_shl, qa_and1, va_up_self, qa_une, pk_us, pk_un, qa_up2, qa_upd2, Option.bind_some, if_true, if_false, and_true, true_and, and_self, qa_f1, qa_f2, m1, m2, m3, m4]
    have a64 : va_up h1 61 g 64 (t * 6 + f) = nI xp := by
      rw [qa_une _ _ (by omega), fr1 64 (by omega)]
      exact e64
    have a64' : va_up h1 61 g 64 = h 64 := by rw [qa_une _ _ (by omega), fr1 64 (by omega)]
    cases hl : qs_law (w.1 84) (w.1 86) 1 t f i j
    · rw [hl] at eF eq
      obtain ⟨h', xp', e, r1, r⟩ := qk_passI HA hP ht hf ho hi K k n (j + 1) (va_up h1 61 g) xp (by omega) (by omega) (qi_stg_h (fun c _ hc => frA.1 c (by omega)) HS) (qk_askH_h hask (fun c hc => frA.1 c (by omega))) nmA a64 (qk_pb_f b1 eF)
      refine ⟨h', xp', ?_, frA.tr r1, r⟩
      simp (disch := omega) only [↓reduceIte, ↓qa_b, zL_learnPasses_L15, s1, qa_ltT, va_up_self, qa_up2, ← eh1, qa_lit, eq, Option.bind_some, qs_b0, nI_add]
      exact e
    · rw [hl] at eF eq
      have frB : qk_fp (t * 6 + f) h (va_up (va_up h1 61 g) 64 (upd (h 64) (t * 6 + f) (nI (xp ||| 2 ^ (i * 3 + j))))) := ⟨fun c hc => by rw [qa_une _ _ (by omega)]; exact frA.1 c hc, fun c hc => by rw [qa_une _ _ (by omega)]; exact frA.2.1 c hc, ⟨by rw [qa_une _ _ (by omega)]; exact frA.2.2.1.1, by rw [qa_une _ _ (by omega)]; exact frA.2.2.1.2⟩, fun j hj => by rw [va_up_self, pk_un hj]⟩
      have nmB : qk_nm (w.1 84) t f (va_up (va_up h1 61 g) 64 (upd (h 64) (t * 6 + f) (nI (xp ||| 2 ^ (i * 3 + j))))) := by
        unfold qk_nm at nmA ⊢
        rw [qa_une _ _ (show 60 ≠ 64 by omega)]
        exact nmA
      obtain ⟨h', xp', e, r1, r⟩ := qk_passI HA hP ht hf ho hi K k n (j + 1) (va_up (va_up h1 61 g) 64 (upd (h 64) (t * 6 + f) (nI (xp ||| 2 ^ (i * 3 + j))))) (xp ||| 2 ^ (i * 3 + j)) (by omega) (by omega) (qi_stg_h (fun c _ hc => frB.1 c (by omega)) HS) (qk_askH_h hask (fun c hc => frB.1 c (by omega))) nmB (by rw [va_up_self, pk_us]) (qk_pb_t (by omega) (by omega) b1 eF)
      refine ⟨h', xp', ?_, frB.tr r1, r⟩
      simp (disch := omega) only [↓reduceIte, ↓qa_b, zL_learnPasses_L15, zH_passBit, s1, qa_ltT, va_up_self, qa_up2, ← eh1, qa_lit, eq, Option.bind_some, qs_b0, nI_add, pk_mul, Bool.true_eq_false, qa_31, eS, qa_ix, qa_cl, a64, a64', fa_or]
      exact e
theorem qk_passO (HA : qi_a L P pn fn tn bn (w.1 84)) (hP : P ≤ 8) {x t f : Nat} (ht : t < bn) (hf : f < fn) (ho : qs_on (w.1 84) t f = true) : ∀ (k n i : Nat) (h : Nat → Nat → Int32) (xp : Nat), i + k = pn → k < n → qi_stg 0 P pn fn tn bn h (w.1 84) → qk_askH x h (w.1 84) (w.1 86) → qk_nm (w.1 84) t f h → h 64 (t * 6 + f) = nI xp → qk_pb xp i 0 (qs_ps (w.1 84) (w.1 86) pn t f) →
    ∃ h' xp', zL_learnPasses_L3 n x (nI (t * 6 + f)) (nI i) h = some h' ∧ qk_fp (t * 6 + f) h h' ∧ h' 64 (t * 6 + f) = nI xp' ∧ qk_pb xp' pn 0 (qs_ps (w.1 84) (w.1 86) pn t f)
  | 0, n + 1, i, h, xp, hi, _, HS, hask, hnm, e64, b1 => by
    have : i = pn := by omega
    subst this
    obtain ⟨a0, a1, a4, a6, lpn, lfn, ltn, lbn⟩ := HA.1
    have s1 := (qi_stg0 HS).1.2.1
    refine ⟨h, xp, ?_, qk_fp.rf _ h, e64, b1⟩
    simp (disch := omega) only [↓reduceIte, ↓qa_b, qa_b, qa_lit, qa_neg1, qa_qN, nI_add, pk_mul, qa_ix, qa_cl, qa_ltT, qa_ltF, qa_eqT, qa_eqF, qa_nN, qa_Nn, qa_ltN, qa_Nlt, qa_NN, qa_ltNN, qa_sub, qa_dec, qa_dec0, qa_sub0, qa_incN, qa_31, qa_shr, qa_shl, qa_and1, va_up_self, qa_une, pk_us, pk_un, qa_up2, qa_upd2, Option.bind_some, if_true, if_false, and_true, true_and, and_self, qa_f1, qa_f2, zL_learnPasses_L3, s1]
  | k + 1, n + 1, i, h, xp, hi, hn, HS, hask, hnm, e64, b1 => by
    obtain ⟨a0, a1, a4, a6, lpn, lfn, ltn, lbn⟩ := HA.1
    have s1 := (qi_stg0 HS).1.2.1
    obtain ⟨h1, x1, e1, f1, n1, g1, c1⟩ := qk_passI HA hP ht hf ho (show i < pn by omega) (fun v2 v3 v4 h => zL_learnPasses_L3 n v2 v3 v4 h) pn am_N 0 h xp (by omega) (Nat.lt_of_le_of_lt lpn (by decide)) HS hask hnm e64 b1
    have c2 : qk_pb x1 (i + 1) 0 (qs_ps (w.1 84) (w.1 86) pn t f) := ⟨c1.1, fun p hp q hq => by
      rw [c1.2 p hp q hq]
      by_cases hqp : q < pn
      · have : (decide (p < i) || (decide (p = i) && decide (q < pn))) = (decide (p < i + 1) || (decide (p = i + 1) && decide (q < 0))) := by
          rw [Bool.eq_iff_iff]
          simp only [Bool.or_eq_true, Bool.and_eq_true, decide_eq_true_eq]
          omega
        rw [this]
      · have : qs_ps (w.1 84) (w.1 86) pn t f p q = false := by
          unfold qs_ps
          rw [decide_eq_false hqp, Bool.and_false, Bool.false_and]
        rw [this, Bool.and_false, Bool.and_false]⟩
    obtain ⟨h2, x2, e2, f2, g2, c3⟩ := qk_passO HA hP ht hf ho k n (i + 1) h1 x1 (by omega) (by omega) (qi_stg_h (fun c _ hc => f1.1 c (by omega)) HS) (qk_askH_h hask (fun c hc => f1.1 c (by omega))) n1 g1 c2
    refine ⟨h2, x2, ?_, f1.tr f2, g2, c3⟩
    rw [zL_learnPasses_L3, s1]
    simp (disch := omega) only [↓reduceIte, qa_ltT, qa_lit]
    exact e1.trans e2
/-- a cell is learned -/
def qk_ok (a tx : Nat → Int32) (pn : Nat) (h : Nat → Nat → Int32) (t f : Nat) : Prop := ∃ xn xf xp, h 62 (t * 6 + f) = nI xn ∧ h 63 (t * 6 + f) = nI xf ∧ h 64 (t * 6 + f) = nI xp ∧ xn < 64 ∧ xf < 64 ∧ xp < 512 ∧ (∀ k, k < 6 → xn.testBit k = (qs_on a t f && qs_nr a pn t f k)) ∧ (∀ k, k < 6 → xf.testBit k = (qs_on a t f && qs_ft a tx pn t f k)) ∧ (∀ p, p < 3 → ∀ q, q < 3 → xp.testBit (p * 3 + q) = (qs_st a t f && qs_ps a tx pn t f p q))
theorem qk_ok_h {a tx : Nat → Int32} {pn t f : Nat} {h h' : Nat → Nat → Int32} (e : h' 62 (t * 6 + f) = h 62 (t * 6 + f) ∧ h' 63 (t * 6 + f) = h 63 (t * 6 + f) ∧ h' 64 (t * 6 + f) = h 64 (t * 6 + f)) (H : qk_ok a tx pn h t f) : qk_ok a tx pn h' t f := by
  unfold qk_ok at H ⊢
  rw [e.1, e.2.1, e.2.2]
  exact H
/-- a heap that differs in names, values and one cell -/
def qk_fc (c : Nat) (h h' : Nat → Nat → Int32) : Prop := (∀ c', c' ≤ 59 → h' c' = h c') ∧ (∀ c', 65 ≤ c' → h' c' = h c') ∧ (∀ j, j ≠ c → h' 62 j = h 62 j ∧ h' 63 j = h 63 j ∧ h' 64 j = h 64 j)
theorem qk_name {t f : Nat} (HA : qi_a L P pn fn tn bn (w.1 84)) (hP : P ≤ 8) (HS : qi_stg 0 P pn fn tn bn h (w.1 84)) (ht : t < bn) (hf : f < fn) (ho : qs_on (w.1 84) t f = true) : ∃ g, zL_nameCase (nI t) (nI f) h = some (va_up h 60 g) ∧ qk_nm (w.1 84) t f (va_up h 60 g) := by
  obtain ⟨a0, a1, a4, a6, lpn, lfn, ltn, lbn⟩ := HA.1
  obtain ⟨k1, k2⟩ := qi_kd HA hf
  obtain ⟨p1, p2, p3⟩ := qi_plc HA hP ht hf ho
  have s4 := ((qi_stg0 HS).2.2.1 f hf).1
  have s8 := ((qi_stg0 HS).2.2.2.2.1 t f ht hf).1
  rw [k1] at s4
  rw [p1] at s8
  refine ⟨upd (upd (upd (upd (h 60) 12 (nI f)) 13 (nI (qs_kd (w.1 84) f))) 14 (nI (qs_pl (w.1 84) t f))) 10 (nI t), ?_, ?_⟩
  · simp (disch := omega) only [↓reduceIte, ↓qa_b, qa_b, qa_lit, qa_neg1, qa_qN, nI_add, pk_mul, qa_ix, qa_cl, qa_ltT, qa_ltF, qa_eqT, qa_eqF, qa_nN, qa_Nn, qa_ltN, qa_Nlt, qa_NN, qa_ltNN, qa_sub, qa_dec, qa_dec0, qa_sub0, qa_incN, qa_31, qa_shr, qa_shl, qa_and1, va_up_self, qa_une, pk_us, pk_un, qa_up2, qa_upd2, Option.bind_some, if_true, if_false, and_true, true_and, and_self, qa_f1, qa_f2, zL_nameCase, s4, s8]
  · unfold qk_nm
    simp (disch := omega) only [↓reduceIte, ↓qa_b, qa_b, qa_lit, qa_neg1, qa_qN, nI_add, pk_mul, qa_ix, qa_cl, qa_ltT, qa_ltF, qa_eqT, qa_eqF, qa_nN, qa_Nn, qa_ltN, qa_Nlt, qa_NN, qa_ltNN, qa_sub, qa_dec, qa_dec0, qa_sub0, qa_incN, qa_31, qa_shr, qa_shl, qa_and1, va_up_self, qa_une, pk_us, pk_un, qa_up2, qa_upd2, Option.bind_some, if_true, if_false, and_true, true_and, and_self, qa_f1, qa_f2]
theorem qk_cell (HA : qi_a L P pn fn tn bn (w.1 84)) (hP : P ≤ 8) {x t f : Nat} (ht : t < bn) (hf : f < fn) (hx : x ≤ 48) (HS : qi_stg 0 P pn fn tn bn h (w.1 84)) (hask : qk_askH x h (w.1 84) (w.1 86)) (n : Nat) (K : Nat → Int32 → (Nat → Nat → Int32) → Option (Nat → Nat → Int32)) : ∃ h', zL_learn_L26 K (n + 1) x (nI t) (nI f) h = zL_learn_L26 K n x (nI t) (nI (f + 1)) h' ∧ qk_fc (t * 6 + f) h h' ∧ qk_ok (w.1 84) (w.1 86) pn h' t f := by
  obtain ⟨a0, a1, a4, a6, lpn, lfn, ltn, lbn⟩ := HA.1
  have s4 := (qi_stg0 HS).1.2.2.1
  have hz : ∃ hz : Nat → Nat → Int32, hz = va_up (va_up (va_up h 62 (upd (h 62) (t * 6 + f) (nI 0))) 63 (upd (h 63) (t * 6 + f) (nI 0))) 64 (upd (h 64) (t * 6 + f) (nI 0)) := ⟨_, rfl⟩
  obtain ⟨hz, ez⟩ := hz
  have frz : qk_fc (t * 6 + f) h hz := ⟨fun c hc => by rw [ez]; simp (disch := omega) only [↓reduceIte, ↓qa_b, qa_b, qa_lit, qa_neg1, qa_qN, nI_add, pk_mul, qa_ix, qa_cl, qa_ltT, qa_ltF, qa_eqT, qa_eqF, qa_nN, qa_Nn, qa_ltN, qa_Nlt, qa_NN, qa_ltNN, qa_sub, qa_dec, qa_dec0, qa_sub0, qa_incN, qa_31, qa_shr, qa_shl, qa_and1, va_up_self, qa_une, pk_us, pk_un, qa_up2, qa_upd2, Option.bind_some, if_true, if_false, and_true, true_and, and_self, qa_f1, qa_f2], fun c hc => by rw [ez]; simp (disch := omega) only [↓reduceIte, ↓qa_b, qa_b, qa_lit, qa_neg1, qa_qN, nI_add, pk_mul, qa_ix, qa_cl, qa_ltT, qa_ltF, qa_eqT, qa_eqF, qa_nN, qa_Nn, qa_ltN, qa_Nlt, qa_NN, qa_ltNN, qa_sub, qa_dec, qa_dec0, qa_sub0, qa_incN, qa_31, qa_shr, qa_shl, qa_and1, va_up_self, qa_une, pk_us, pk_un, qa_up2, qa_upd2, Option.bind_some, if_true, if_false, and_true, true_and, and_self, qa_f1, qa_f2], fun j hj => by rw [ez]; simp (disch := omega) only [↓reduceIte, ↓qa_b, qa_b, qa_lit, qa_neg1, qa_qN, nI_add, pk_mul, qa_ix, qa_cl, qa_ltT, qa_ltF, qa_eqT, qa_eqF, qa_nN, qa_Nn, qa_ltN, qa_Nlt, qa_NN, qa_ltNN, qa_sub, qa_dec, qa_dec0, qa_sub0, qa_incN, qa_31, qa_shr, qa_shl, qa_and1, va_up_self, qa_une, pk_us, pk_un, qa_up2, qa_upd2, Option.bind_some, if_true, if_false, and_true, true_and, and_self, qa_f1, qa_f2]⟩
  have z62 : hz 62 (t * 6 + f) = nI 0 := by rw [ez]; simp (disch := omega) only [↓reduceIte, ↓qa_b, qa_b, qa_lit, qa_neg1, qa_qN, nI_add, pk_mul, qa_ix, qa_cl, qa_ltT, qa_ltF, qa_eqT, qa_eqF, qa_nN, qa_Nn, qa_ltN, qa_Nlt, qa_NN, qa_ltNN, qa_sub, qa_dec, qa_dec0, qa_sub0, qa_incN, qa_31, qa_shr, qa_shl, qa_and1, va_up_self, qa_une, pk_us, pk_un, qa_up2, qa_upd2, Option.bind_some, if_true, if_false, and_true, true_and, and_self, qa_f1, qa_f2]
  have z63 : hz 63 (t * 6 + f) = nI 0 := by rw [ez]; simp (disch := omega) only [↓reduceIte, ↓qa_b, qa_b, qa_lit, qa_neg1, qa_qN, nI_add, pk_mul, qa_ix, qa_cl, qa_ltT, qa_ltF, qa_eqT, qa_eqF, qa_nN, qa_Nn, qa_ltN, qa_Nlt, qa_NN, qa_ltNN, qa_sub, qa_dec, qa_dec0, qa_sub0, qa_incN, qa_31, qa_shr, qa_shl, qa_and1, va_up_self, qa_une, pk_us, pk_un, qa_up2, qa_upd2, Option.bind_some, if_true, if_false, and_true, true_and, and_self, qa_f1, qa_f2]
  have z64 : hz 64 (t * 6 + f) = nI 0 := by rw [ez]; simp (disch := omega) only [↓reduceIte, ↓qa_b, qa_b, qa_lit, qa_neg1, qa_qN, nI_add, pk_mul, qa_ix, qa_cl, qa_ltT, qa_ltF, qa_eqT, qa_eqF, qa_nN, qa_Nn, qa_ltN, qa_Nlt, qa_NN, qa_ltNN, qa_sub, qa_dec, qa_dec0, qa_sub0, qa_incN, qa_31, qa_shr, qa_shl, qa_and1, va_up_self, qa_une, pk_us, pk_un, qa_up2, qa_upd2, Option.bind_some, if_true, if_false, and_true, true_and, and_self, qa_f1, qa_f2]
  have HSz := qi_stg_h (fun c _ hc => frz.1 c (by omega)) HS
  have eon := qh_isOn HA HSz ht hf
  have step : zL_learn_L26 K (n + 1) x (nI t) (nI f) h = (if qs_on (w.1 84) t f = false then zL_learn_J94 (fun v2 v3 v4 h => zL_learn_L26 K n v2 v3 v4 h) x (nI t) (nI f) (nI (t * 6 + f)) hz else (zL_nameCase (nI t) (nI f) hz).bind fun r17 => (zL_learnHolds x (nI (t * 6 + f)) r17).bind fun r18 => zL_learn_J94 (fun v2 v3 v4 h => zL_learn_L26 K n v2 v3 v4 h) x (nI t) (nI f) (nI (t * 6 + f)) r18) := by
    simp (disch := omega) only [↓reduceIte, ↓qa_b, zL_learn_L26, s4, qa_ltT, pk_mul, nI_add, qa_ix, qa_cl, qa_lit, va_up_self, qa_une, ← ez, eon, Option.bind_some, qs_b0]
  cases ho : qs_on (w.1 84) t f
  · rw [ho] at step
    have est := qh_staysOn HA HSz ht hf
    rw [ho] at est
    have e0 : (decide (0 < t) && (false && qs_on (w.1 84) (t - 1) f)) = false := by simp
    rw [e0] at est
    refine ⟨hz, ?_, frz, 0, 0, 0, z62, z63, z64, by omega, by omega, by omega, fun k _ => ?_, fun k _ => ?_, fun p _ q _ => ?_⟩
    · rw [step]
      simp only [if_true]
      simp (disch := omega) only [↓reduceIte, ↓qa_b, zL_learn_J94, est, Option.bind_some, qs_b0, qa_lit, nI_add]
    · rw [ho]; simp
    · rw [ho]; simp
    · unfold qs_st
      rw [ho]; simp
  · rw [ho] at step
    simp only [Bool.true_eq_false, if_false] at step
    obtain ⟨g, en, nm⟩ := qk_name HA hP HSz ht hf ho
    have frn : ∀ c, c ≠ 60 → va_up hz 60 g c = hz c := fun c hc => qa_une _ _ hc
    have HSn := qi_stg_h (h' := va_up hz 60 g) (fun c _ hc => frn c (by omega)) HSz
    have askn := qk_askH_h (qk_askH_h hask (fun c hc => frz.1 c (by omega))) (h2 := va_up hz 60 g) (fun c hc => frn c (by omega))
    have hb : qs_hn (w.1 84) pn f ≤ 6 := by
      unfold qs_hn
      split <;> omega
    obtain ⟨h1, xn, xf, e1, f1, n1, g62, g63, c1, c2⟩ := qk_holdsL HA hP ht hf ho hx (qs_hn (w.1 84) pn f) am_N 0 (va_up hz 60 g) 0 0 (by omega) (Nat.lt_of_le_of_lt hb (by decide)) HSn askn nm (by rw [frn 62 (by omega)]; exact z62) (by rw [frn 63 (by omega)]; exact z63) (qk_bits_0 _) (qk_bits_0 _)
    have eH : zL_learnHolds x (nI (t * 6 + f)) (va_up hz 60 g) = some h1 := by
      unfold zL_learnHolds
      have s1 := (qi_stg0 HSn).1.2.1
      have k2 := (qi_kd HA hf).2
      by_cases hc : qs_kd (w.1 84) f = 2
      · have : qs_hn (w.1 84) pn f = pn := by unfold qs_hn; rw [if_pos hc]
        rw [this] at e1
        rw [hc] at e1
        have n13 : va_up hz 60 g 60 13 = nI 2 := by rw [nm.2.1, hc]
        simp (disch := omega) only [↓reduceIte, ↓qa_b, n13, qa_lit, qa_eqT, s1]
        exact e1
      · have : qs_hn (w.1 84) pn f = 2 * pn := by unfold qs_hn; rw [if_neg hc]
        rw [this] at e1
        simp (disch := omega) only [↓reduceIte, ↓qa_b, nm.2.1, qa_lit, qa_eqF, zG_hands, s1, pk_mul]
        exact e1
    have cn : ∀ k, k < 6 → xn.testBit k = (true && qs_nr (w.1 84) pn t f k) := fun k hk => by
      rw [c1.2 k hk, Bool.true_and]
      unfold qs_nr
      cases decide (k < qs_hn (w.1 84) pn f) <;> simp
    have cf : ∀ k, k < 6 → xf.testBit k = (true && qs_ft (w.1 84) (w.1 86) pn t f k) := fun k hk => by
      rw [c2.2 k hk, Bool.true_and]
      unfold qs_ft qs_nr
      cases decide (k < qs_hn (w.1 84) pn f) <;> simp
    have fr1 : qk_fc (t * 6 + f) h h1 := ⟨fun c hc => by rw [f1.1 c hc, frn c (by omega), frz.1 c hc], fun c hc => by rw [f1.2.1 c hc, frn c (by omega), frz.2.1 c hc], fun j hj => ⟨by rw [(f1.2.2.2 j hj).1, frn 62 (by omega), (frz.2.2 j hj).1], by rw [(f1.2.2.2 j hj).2, frn 63 (by omega), (frz.2.2 j hj).2.1], by rw [f1.2.2.1, frn 64 (by omega), (frz.2.2 j hj).2.2]⟩⟩
    have HS1 := qi_stg_h (h' := h1) (fun c _ hc => fr1.1 c (by omega)) HS
    have g64 : h1 64 (t * 6 + f) = nI 0 := by rw [f1.2.2.1, frn 64 (by omega)]; exact z64
    have est := qh_staysOn HA HS1 ht hf
    have eqs : (decide (0 < t) && (qs_on (w.1 84) t f && qs_on (w.1 84) (t - 1) f)) = qs_st (w.1 84) t f := rfl
    rw [eqs] at est
    cases hst : qs_st (w.1 84) t f
    · rw [hst] at est
      refine ⟨h1, ?_, fr1, xn, xf, 0, g62, g63, g64, c1.1, c2.1, by omega, by rw [ho]; exact cn, by rw [ho]; exact cf, fun p _ q _ => ?_⟩
      · rw [step, en, Option.bind_some, eH, Option.bind_some]
        simp (disch := omega) only [↓reduceIte, ↓qa_b, zL_learn_J94, est, Option.bind_some, qs_b0, qa_lit, nI_add]
      · rw [hst]; simp
    · rw [hst] at est
      obtain ⟨h2, xp, e2, f2, g2, c3⟩ := qk_passO HA hP ht hf ho pn am_N 0 h1 0 (by omega) (Nat.lt_of_le_of_lt lpn (by decide)) HS1 (qk_askH_h hask (fun c hc => fr1.1 c (by omega))) n1 g64 ⟨by omega, fun p _ q _ => by simp⟩
      refine ⟨h2, ?_, ⟨fun c hc => by rw [f2.1 c hc, fr1.1 c hc], fun c hc => by rw [f2.2.1 c hc, fr1.2.1 c hc], fun j hj => ⟨by rw [f2.2.2.1.1, (fr1.2.2 j hj).1], by rw [f2.2.2.1.2, (fr1.2.2 j hj).2.1], by rw [f2.2.2.2 j hj, (fr1.2.2 j hj).2.2]⟩⟩, xn, xf, xp, by rw [f2.2.2.1.1]; exact g62, by rw [f2.2.2.1.2]; exact g63, g2, c1.1, c2.1, c3.1, by rw [ho]; exact cn, by rw [ho]; exact cf, fun p hp q hq => ?_⟩
      · rw [step, en, Option.bind_some, eH, Option.bind_some]
        have eP : zL_learnPasses x (nI (t * 6 + f)) h1 = some h2 := e2
        simp (disch := omega) only [↓reduceIte, ↓qa_b, zL_learn_J94, est, Option.bind_some, qs_b0, Bool.true_eq_false, eP, qa_lit, nI_add]
      · rw [c3.2 p hp q hq, hst, Bool.true_and]
        unfold qs_ps
        by_cases hpp : p < pn
        · simp [hpp]
        · simp [hpp]
end
