/-! THE HEART: judge: crossing -/
theorem qs_ah_iff (hm : Nat → Nat) (p q : Nat) : qs_ah hm p q = true ↔ hm p < hm q ∨ (hm p = hm q ∧ p < q) := by
  unfold qs_ah
  simp [Bool.or_eq_true, Bool.and_eq_true]
theorem qs_ct_mono (hm : Nat → Nat) {p q : Nat} (h : qs_ah hm p q = true) : ∀ n, qs_ct hm p n ≤ qs_ct hm q n ∧ (p < n → qs_ct hm p n < qs_ct hm q n)
  | 0 => ⟨Nat.le_refl 0, fun h => by omega⟩
  | n + 1 => by
    obtain ⟨h1, h2⟩ := qs_ct_mono hm h n
    have hpq := (qs_ah_iff hm p q).mp h
    rw [qs_ct_s, qs_ct_s]
    by_cases e : n = p
    · subst e
      have f1 : qs_ah hm n n = false := by
        cases hc : qs_ah hm n n
        · rfl
        · have := (qs_ah_iff hm n n).mp hc
          omega
      rw [f1, h]
      simp only [Bool.false_eq_true, if_false, if_true]
      exact ⟨by omega, fun _ => by omega⟩
    · have imp : qs_ah hm n p = true → qs_ah hm n q = true := fun hc => by
        have := (qs_ah_iff hm n p).mp hc
        exact (qs_ah_iff hm n q).mpr (by omega)
      cases hc : qs_ah hm n p
      · simp only [Bool.false_eq_true, if_false]
        exact ⟨by omega, fun _ => by have := h2 (by omega); omega⟩
      · rw [imp hc]
        simp only [if_true]
        exact ⟨by omega, fun _ => by have := h2 (by omega); omega⟩
theorem qs_or_lt {hm : Nat → Nat} {pn a b : Nat} (ha : a < 2 * pn) (hb : b < 2 * pn) : qs_or hm pn a < qs_or hm pn b ↔ (hm (a / 2) < hm (b / 2) ∨ (hm (a / 2) = hm (b / 2) ∧ a < b)) := by
  unfold qs_or
  by_cases e : a / 2 = b / 2
  · rw [e]
    omega
  · cases hc : qs_ah hm (a / 2) (b / 2)
    · have hn : ¬ (hm (a / 2) < hm (b / 2) ∨ (hm (a / 2) = hm (b / 2) ∧ a / 2 < b / 2)) := fun q => by
        have := (qs_ah_iff hm _ _).mpr q
        rw [hc] at this
        cases this
      have hc2 : qs_ah hm (b / 2) (a / 2) = true := (qs_ah_iff hm _ _).mpr (by omega)
      have := (qs_ct_mono hm hc2 pn).2 (by omega)
      omega
    · have h1 := (qs_ah_iff hm _ _).mp hc
      have := (qs_ct_mono hm hc pn).2 (by omega)
      omega
/-- one of some hands is ahead of one of others -/
def qj_ab (or : Nat → Nat) (x y a b : Nat) : Bool := x.testBit a && (y.testBit b && decide (or a < or b))
def qj_aa (or : Nat → Nat) (x y : Nat) : Bool := qs_any (fun a => qs_any (fun b => qj_ab or x y a b) 0 6) 0 6
theorem qs_big : ∀ pn, pn < 4 → ∀ x, x < 64 → 4 ^ pn ≤ x ∨ ∀ j, j < 6 → x.testBit j = true → j < 2 * pn := by decide +kernel
section
variable {pn : Nat} {hm : Nat → Nat} {h : Nat → Nat → Int32}
theorem qh_aaI (hp3 : pn ≤ 3) (e1 : h 1 1 = nI pn) (e2 : ∀ p, p < pn → h 2 p = nI (hm p) ∧ hm p < 8) {x y a : Nat} (hx : x < 64) (hy : y < 64) (hx4 : ∀ j, j < 6 → x.testBit j = true → j < 2 * pn) (hy4 : ∀ j, j < 6 → y.testBit j = true → j < 2 * pn) (ha : a < 6) (K : Int32 → Int32 → Int32 → (Nat → Nat → Int32) → Option Int32) : ∀ (k n b : Nat), b + k = 6 → k < n → zJ_isAnyAhead_L11 K n (nI x) (nI y) (nI a) (nI b) h = if qs_any (fun b => qj_ab (qs_or hm pn) x y a b) b k then some (nI 1) else K (nI x) (nI y) (nI (a + 1)) h
  | 0, n + 1, b, hb, _ => by
    simp (disch := omega) only [↓reduceIte, zJ_isAnyAhead_L11, qa_ltF, qa_lit, nI_add, qs_any, Bool.false_eq_true]
  | k + 1, n + 1, b, hb, hn => by
    have ih := qh_aaI hp3 e1 e2 hx hy hx4 hy4 ha K k n (b + 1) (by omega) (by omega)
    unfold qs_any
    cases hxa : x.testBit a
    · have z : qj_ab (qs_or hm pn) x y a b = false := by unfold qj_ab; rw [hxa, Bool.false_and]
      rw [z, Bool.false_or]
      simp (disch := omega) only [↓reduceIte, zJ_isAnyAhead_L11, qa_ltT, qa_lit, qa_31, qa_shr, qa_and1, qa_tb, hxa, nI_add]
      exact ih
    · cases hyb : y.testBit b
      · have z : qj_ab (qs_or hm pn) x y a b = false := by unfold qj_ab; rw [hyb, Bool.false_and, Bool.and_false]
        rw [z, Bool.false_or]
        simp (disch := omega) only [↓reduceIte, zJ_isAnyAhead_L11, qa_ltT, qa_lit, qa_31, qa_shr, qa_and1, qa_tb, hxa, hyb, Bool.true_eq_false, nI_add]
        exact ih
      · have oa := qs_order hp3 e1 e2 (hx4 a ha hxa)
        have ob := qs_order hp3 e1 e2 (hy4 b (by omega) hyb)
        have la : qs_or hm pn a < 100 := by
          have := qs_ct_le hm (a / 2) pn
          unfold qs_or
          omega
        have lb : qs_or hm pn b < 100 := by
          have := qs_ct_le hm (b / 2) pn
          unfold qs_or
          omega
        have z : qj_ab (qs_or hm pn) x y a b = decide (qs_or hm pn a < qs_or hm pn b) := by unfold qj_ab; rw [hxa, hyb, Bool.true_and, Bool.true_and]
        rw [z]
        by_cases hlt : qs_or hm pn a < qs_or hm pn b
        · rw [decide_eq_true hlt, Bool.true_or]
          simp (disch := omega) only [↓reduceIte, zJ_isAnyAhead_L11, qa_ltT, qa_lit, qa_31, qa_shr, qa_and1, qa_tb, hxa, hyb, Bool.true_eq_false, oa, ob, Option.bind_some]
        · rw [decide_eq_false hlt, Bool.false_or]
          simp (disch := omega) only [↓reduceIte, zJ_isAnyAhead_L11, qa_ltT, qa_ltF, qa_lit, qa_31, qa_shr, qa_and1, qa_tb, hxa, hyb, Bool.true_eq_false, oa, ob, Option.bind_some, nI_add]
          exact ih
theorem qh_aaO (hp3 : pn ≤ 3) (e1 : h 1 1 = nI pn) (e2 : ∀ p, p < pn → h 2 p = nI (hm p) ∧ hm p < 8) {x y : Nat} (hx : x < 64) (hy : y < 64) (hx4 : ∀ j, j < 6 → x.testBit j = true → j < 2 * pn) (hy4 : ∀ j, j < 6 → y.testBit j = true → j < 2 * pn) : ∀ (k n a : Nat), a + k = 6 → k < n → zJ_isAnyAhead_L2 n (nI x) (nI y) (nI a) h = some (qs_b (qs_any (fun a => qs_any (fun b => qj_ab (qs_or hm pn) x y a b) 0 6) a k))
  | 0, n + 1, a, ha, _ => by
    simp (disch := omega) only [↓reduceIte, zJ_isAnyAhead_L2, qa_ltF, qa_lit, qs_any]
    rfl
  | k + 1, n + 1, a, ha, hn => by
    have ih := qh_aaO hp3 e1 e2 hx hy hx4 hy4 k n (a + 1) (by omega) (by omega)
    have e := qh_aaI hp3 e1 e2 hx hy hx4 hy4 (show a < 6 by omega) (fun v1 v2 v3 h => zJ_isAnyAhead_L2 n v1 v2 v3 h) 6 am_N 0 (by omega) (by decide)
    have e0 : qs_any (fun a => qs_any (fun b => qj_ab (qs_or hm pn) x y a b) 0 6) a (k + 1) = (qs_any (fun b => qj_ab (qs_or hm pn) x y a b) 0 6 || qs_any (fun a => qs_any (fun b => qj_ab (qs_or hm pn) x y a b) 0 6) (a + 1) k) := rfl
    rw [e0, zJ_isAnyAhead_L2]
    simp (disch := omega) only [↓reduceIte, qa_ltT, qa_lit]
    refine e.trans ?_
    cases qs_any (fun b => qj_ab (qs_or hm pn) x y a b) 0 6
    · simp only [Bool.false_eq_true, if_false, Bool.false_or]
      exact ih
    · simp only [if_true, Bool.true_or]
      rfl
theorem qh_aa (hp3 : pn ≤ 3) (e1 : h 1 1 = nI pn) (e2 : ∀ p, p < pn → h 2 p = nI (hm p) ∧ hm p < 8) {x y : Nat} (hx : x < 64) (hy : y < 64) (hx4 : x < 4 ^ pn) (hy4 : y < 4 ^ pn) : zJ_isAnyAhead (nI x) (nI y) h = some (qs_b (qj_aa (qs_or hm pn) x y)) := by
  have bx : ∀ j, j < 6 → x.testBit j = true → j < 2 * pn := by
    rcases qs_big pn (by omega) x hx with q | q
    · omega
    · exact q
  have bY : ∀ j, j < 6 → y.testBit j = true → j < 2 * pn := by
    rcases qs_big pn (by omega) y hy with q | q
    · omega
    · exact q
  exact qh_aaO hp3 e1 e2 hx hy bx bY 6 am_N 0 (by omega) (by decide)
end
/-- two figures cross -/
def qj_fg (or : Nat → Nat) (a : Nat → Int32) (t f g : Nat) : Bool := decide (a (50 + 6 * t + g) < a (50 + 6 * t + f)) && qj_aa or (qs_x a t f) (qs_x a t g)
def qj_4 (or : Nat → Nat) (a : Nat → Int32) (fn t : Nat) : Bool := qs_any (fun f => qs_any (fun g => qj_fg or a t f g) 0 fn) 0 fn
section
variable {L P pn fn tn bn : Nat} {hm : Nat → Nat} {h : Nat → Nat → Int32} {w : zHM}
theorem qh_crI (HA : qi_a L P pn fn tn bn (w.1 84)) (HS : qi_stg 0 P pn fn tn bn h (w.1 84)) (e2 : ∀ p, p < pn → h 2 p = nI (hm p) ∧ hm p < 8) {t f : Nat} (ht : t < bn) (hf : f < fn) (K : Int32 → Int32 → (Nat → Nat → Int32) → Option Int32) : ∀ (k n g : Nat), g + k = fn → k < n → zJ_isCrossed_L12 K n (nI t) (nI f) (nI g) h = if qs_any (fun g => qj_fg (qs_or hm pn) (w.1 84) t f g) g k then some (nI 1) else K (nI t) (nI (f + 1)) h
  | 0, n + 1, g, hg, _ => by
    obtain ⟨a0, a1, a4, a6, lpn, lfn, ltn, lbn⟩ := HA.1
    have s4 := (qi_stg0 HS).1.2.2.1
    simp (disch := omega) only [↓reduceIte, zJ_isCrossed_L12, s4, qa_ltF, qa_lit, nI_add, qs_any, Bool.false_eq_true]
  | k + 1, n + 1, g, hg, hn => by
    obtain ⟨a0, a1, a4, a6, lpn, lfn, ltn, lbn⟩ := HA.1
    have s4 := (qi_stg0 HS).1.2.2.1
    have s1 := (qi_stg0 HS).1.2.1
    have ih := qh_crI HA HS e2 ht hf K k n (g + 1) (by omega) (by omega)
    obtain ⟨x1, x2, x3⟩ := qi_x HA ht hf
    obtain ⟨y1, y2, y3⟩ := qi_x HA ht (show g < fn by omega)
    obtain ⟨p1, p2⟩ := (qi_stg0 HS).2.2.2.2.1 t f ht hf
    obtain ⟨r1, r2⟩ := (qi_stg0 HS).2.2.2.2.1 t g ht (by omega)
    rw [x1] at p2
    rw [y1] at r2
    have eaa := qh_aa lpn s1 e2 x3 y3 x2 y2
    have e0 : qs_any (fun g => qj_fg (qs_or hm pn) (w.1 84) t f g) g (k + 1) = (qj_fg (qs_or hm pn) (w.1 84) t f g || qs_any (fun g => qj_fg (qs_or hm pn) (w.1 84) t f g) (g + 1) k) := rfl
    rw [e0]
    unfold qj_fg at ih ⊢
    by_cases hlt : w.1 84 (50 + 6 * t + g) < w.1 84 (50 + 6 * t + f)
    · rw [decide_eq_true hlt, Bool.true_and]
      cases haa : qj_aa (qs_or hm pn) (qs_x (w.1 84) t f) (qs_x (w.1 84) t g)
      · rw [haa] at eaa
        simp (disch := omega) only [↓reduceIte, ↓qa_b, zJ_isCrossed_L12, s4, qa_ltT, qa_lit, pk_mul, nI_add, qa_ix, qa_cl, p1, r1, p2, r2, hlt, eaa, Option.bind_some, qs_b0, Bool.false_or]
        exact ih
      · rw [haa] at eaa
        simp (disch := omega) only [↓reduceIte, ↓qa_b, zJ_isCrossed_L12, s4, qa_ltT, qa_lit, pk_mul, nI_add, qa_ix, qa_cl, p1, r1, p2, r2, hlt, eaa, Option.bind_some, qs_b0, Bool.true_eq_false, Bool.true_or]
    · rw [decide_eq_false hlt, Bool.false_and, Bool.false_or]
      simp (disch := omega) only [↓reduceIte, ↓qa_b, zJ_isCrossed_L12, s4, qa_ltT, qa_lit, pk_mul, nI_add, qa_ix, qa_cl, p1, r1, hlt]
      exact ih
theorem qh_crO (HA : qi_a L P pn fn tn bn (w.1 84)) (HS : qi_stg 0 P pn fn tn bn h (w.1 84)) (e2 : ∀ p, p < pn → h 2 p = nI (hm p) ∧ hm p < 8) {t : Nat} (ht : t < bn) : ∀ (k n f : Nat), f + k = fn → k < n → zJ_isCrossed_L2 n (nI t) (nI f) h = some (qs_b (qs_any (fun f => qs_any (fun g => qj_fg (qs_or hm pn) (w.1 84) t f g) 0 fn) f k))
  | 0, n + 1, f, hf, _ => by
    obtain ⟨a0, a1, a4, a6, lpn, lfn, ltn, lbn⟩ := HA.1
    have s4 := (qi_stg0 HS).1.2.2.1
    simp (disch := omega) only [↓reduceIte, zJ_isCrossed_L2, s4, qa_ltF, qa_lit, qs_any]
    rfl
  | k + 1, n + 1, f, hf, hn => by
    obtain ⟨a0, a1, a4, a6, lpn, lfn, ltn, lbn⟩ := HA.1
    have s4 := (qi_stg0 HS).1.2.2.1
    have ih := qh_crO HA HS e2 ht k n (f + 1) (by omega) (by omega)
    have e := qh_crI HA HS e2 ht (show f < fn by omega) (fun v1 v2 h => zJ_isCrossed_L2 n v1 v2 h) fn am_N 0 (by omega) (Nat.lt_of_le_of_lt lfn (by decide))
    have e0 : qs_any (fun f => qs_any (fun g => qj_fg (qs_or hm pn) (w.1 84) t f g) 0 fn) f (k + 1) = (qs_any (fun g => qj_fg (qs_or hm pn) (w.1 84) t f g) 0 fn || qs_any (fun f => qs_any (fun g => qj_fg (qs_or hm pn) (w.1 84) t f g) 0 fn) (f + 1) k) := rfl
    rw [e0, zJ_isCrossed_L2]
    simp (disch := omega) only [↓reduceIte, s4, qa_ltT, qa_lit]
    refine e.trans ?_
    cases qs_any (fun g => qj_fg (qs_or hm pn) (w.1 84) t f g) 0 fn
    · simp only [Bool.false_eq_true, if_false, Bool.false_or]
      exact ih
    · simp only [if_true, Bool.true_or]
      rfl
end
