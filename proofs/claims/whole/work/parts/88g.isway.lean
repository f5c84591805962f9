/-! THE HEART: search: what the reference asks of a way -/
section
variable {pn : Nat} {hm : Nat → Nat} {w : zHM}
theorem qm_aaI (hp3 : pn ≤ 3) (e2 : ∀ p, p < pn → w.1 84 (10 + 2 * p) = nI (hm p) ∧ hm p < 8) {x y a : Nat} (hx : x < 64) (hy : y < 64) (hx4 : ∀ j, j < 6 → x.testBit j = true → j < 2 * pn) (hy4 : ∀ j, j < 6 → y.testBit j = true → j < 2 * pn) (ha : a < 6) (K : Int32 → Int32 → Int32 → zHM → Option Int32) : ∀ (k n b : Nat), b + k = 6 → k < n → zM_crossing_L11 K n (nI x) (nI y) (nI a) (nI b) w = if qs_any (fun b => qj_ab (qs_or hm pn) x y a b) b k then some (nI 1) else K (nI x) (nI y) (nI (a + 1)) w
  | 0, n + 1, b, hb, _ => by
    simp (disch := omega) only [↓reduceIte, zM_crossing_L11, qa_ltF, qa_lit, nI_add, qs_any, Bool.false_eq_true]
  | k + 1, n + 1, b, hb, hn => by
    have ih := qm_aaI hp3 e2 hx hy hx4 hy4 ha K k n (b + 1) (by omega) (by omega)
    unfold qs_any
    cases hxa : x.testBit a
    · have z : qj_ab (qs_or hm pn) x y a b = false := by unfold qj_ab; rw [hxa, Bool.false_and]
      rw [z, Bool.false_or]
      simp (disch := omega) only [↓reduceIte, zM_crossing_L11, qa_ltT, qa_lit, qa_31, qa_shr, qa_and1, qa_tb1, hxa, nI_add, Bool.false_eq_true]
      exact ih
    · cases hyb : y.testBit b
      · have z : qj_ab (qs_or hm pn) x y a b = false := by unfold qj_ab; rw [hyb, Bool.false_and, Bool.and_false]
        rw [z, Bool.false_or]
        simp (disch := omega) only [↓reduceIte, zM_crossing_L11, qa_ltT, qa_lit, qa_31, qa_shr, qa_and1, qa_tb1, hxa, hyb, nI_add, Bool.false_eq_true]
        exact ih
      · have q1 := hx4 a ha hxa
        have q2 := hy4 b (by omega) hyb
        have e := qm_ahead hp3 e2 q1 q2
        have eo := qs_or_lt (hm := hm) q1 q2
        by_cases hc : qs_or hm pn a < qs_or hm pn b
        · have z : qj_ab (qs_or hm pn) x y a b = true := by unfold qj_ab; rw [hxa, hyb, decide_eq_true hc]; rfl
          rw [z, Bool.true_or, if_pos rfl]
          rw [if_pos (eo.mp hc)] at e
          simp (disch := omega) only [↓reduceIte, zM_crossing_L11, qa_ltT, qa_lit, qa_31, qa_shr, qa_and1, qa_tb1, hxa, hyb, e, Option.bind_some, qa_eqF]
        · have z : qj_ab (qs_or hm pn) x y a b = false := by unfold qj_ab; rw [hxa, hyb, decide_eq_false hc]; rfl
          rw [z, Bool.false_or]
          rw [if_neg (fun q => hc (eo.mpr q))] at e
          simp (disch := omega) only [↓reduceIte, zM_crossing_L11, qa_ltT, qa_lit, qa_31, qa_shr, qa_and1, qa_tb1, hxa, hyb, e, Option.bind_some, nI_add]
          exact ih
theorem qm_aaO (hp3 : pn ≤ 3) (e2 : ∀ p, p < pn → w.1 84 (10 + 2 * p) = nI (hm p) ∧ hm p < 8) {x y : Nat} (hx : x < 64) (hy : y < 64) (hx4 : ∀ j, j < 6 → x.testBit j = true → j < 2 * pn) (hy4 : ∀ j, j < 6 → y.testBit j = true → j < 2 * pn) : ∀ (k n a : Nat), a + k = 6 → k < n → zM_crossing_L2 n (nI x) (nI y) (nI a) w = some (qs_b (qs_any (fun a => qs_any (fun b => qj_ab (qs_or hm pn) x y a b) 0 6) a k))
  | 0, n + 1, a, ha, _ => by
    simp (disch := omega) only [↓reduceIte, zM_crossing_L2, qa_ltF, qa_lit, qs_any]
    rfl
  | k + 1, n + 1, a, ha, hn => by
    have ih := qm_aaO hp3 e2 hx hy hx4 hy4 k n (a + 1) (by omega) (by omega)
    have e := qm_aaI hp3 e2 hx hy hx4 hy4 (show a < 6 by omega) (fun v1 v2 v3 w => zM_crossing_L2 n v1 v2 v3 w) 6 am_N 0 (by omega) (by decide)
    have e0 : qs_any (fun a => qs_any (fun b => qj_ab (qs_or hm pn) x y a b) 0 6) a (k + 1) = (qs_any (fun b => qj_ab (qs_or hm pn) x y a b) 0 6 || qs_any (fun a => qs_any (fun b => qj_ab (qs_or hm pn) x y a b) 0 6) (a + 1) k) := rfl
    rw [e0, zM_crossing_L2]
    simp (disch := omega) only [↓reduceIte, qa_ltT, qa_lit]
    refine e.trans ?_
    cases qs_any (fun b => qj_ab (qs_or hm pn) x y a b) 0 6
    · simp only [Bool.false_eq_true, if_false, Bool.false_or]
      exact ih
    · simp only [if_true, Bool.true_or]
      rfl
theorem qm_crossing (hp3 : pn ≤ 3) (e2 : ∀ p, p < pn → w.1 84 (10 + 2 * p) = nI (hm p) ∧ hm p < 8) {x y : Nat} (hx : x < 64) (hy : y < 64) (hx4 : ∀ j, j < 6 → x.testBit j = true → j < 2 * pn) (hy4 : ∀ j, j < 6 → y.testBit j = true → j < 2 * pn) : zM_crossing (nI x) (nI y) w = some (qs_b (qj_aa (qs_or hm pn) x y)) := qm_aaO hp3 e2 hx hy hx4 hy4 6 am_N 0 (by omega) (by decide)
/-- two figures whose hands cross -/
def qw_x (or sp S : Nat → Nat) (f g : Nat) : Bool := decide (S f ≠ 0) && (decide (S g ≠ 0) && (decide (sp g < sp f) && qj_aa or (S f) (S g)))
def qp_a (S : Nat → Nat) : Int32 → Nat → Nat → Int32
  | x, _, 0 => x
  | x, f, k + 1 => qp_a S (x - nI (qs_bn (S f))) (f + 1) k
def qw_of (on : Nat → Bool) : Nat → Nat → Nat
  | _, 0 => 0
  | f, k + 1 => (if on f then 0 else 1) + qw_of on (f + 1) k
theorem qw_of_le (on : Nat → Bool) : ∀ k f, qw_of on f k ≤ k
  | 0, f => Nat.le_refl 0
  | k + 1, f => by
    have := qw_of_le on k (f + 1)
    unfold qw_of
    split <;> omega
variable {fn t : Nat} {on : Nat → Bool} {S sp : Nat → Nat}
theorem qm_iwI (hp3 : pn ≤ 3) (e2 : ∀ p, p < pn → w.1 84 (10 + 2 * p) = nI (hm p) ∧ hm p < 8) (lfn : fn ≤ 6) (a1 : w.1 84 1 = nI fn) (ht : t < 24) (hS : ∀ g, S g < 64 ∧ ∀ j, j < 6 → (S g).testBit j = true → j < 2 * pn) (e96 : ∀ g, g < 6 → w.1 96 g = nI (S g)) (hpl : ∀ g, g < fn → S g ≠ 0 → w.1 84 (50 + 6 * t + g) = nI (sp g) ∧ sp g < 8) {f : Nat} (hf : f < fn) (v2 v3 : Int32) (K : Int32 → Int32 → Int32 → Int32 → zHM → Option Int32) : ∀ (k n g : Nat), g + k = fn → k < n → zM_isWay_L60 K n (nI t) v2 v3 (nI f) (nI g) w = if qs_any (fun g => qw_x (qs_or hm pn) sp S f g) g k then some (nI 0) else K (nI t) v2 v3 (nI (f + 1)) w
  | 0, n + 1, g, hg, _ => by
    have : g = fn := by omega
    subst this
    simp (disch := omega) only [↓reduceIte, zM_isWay_L60, a1, qa_ltF, qa_lit, nI_add, qs_any, Bool.false_eq_true]
  | k + 1, n + 1, g, hg, hn => by
    have ih := qm_iwI hp3 e2 lfn a1 ht hS e96 hpl hf v2 v3 K k n (g + 1) (by omega) (by omega)
    have ef := e96 f (by omega)
    have eg := e96 g (by omega)
    obtain ⟨f64, fb⟩ := hS f
    obtain ⟨g64, gb⟩ := hS g
    unfold qs_any
    by_cases h1 : S f = 0
    · have z : qw_x (qs_or hm pn) sp S f g = false := by unfold qw_x; rw [h1]; rfl
      rw [z, Bool.false_or]
      simp (disch := omega) only [↓reduceIte, zM_isWay_L60, a1, qa_ltT, qa_lit, nI_add, qa_ix, qa_cl, ef, h1]
      exact ih
    · by_cases h2 : S g = 0
      · have z : qw_x (qs_or hm pn) sp S f g = false := by unfold qw_x; rw [h2]; simp
        rw [z, Bool.false_or]
        simp (disch := omega) only [↓reduceIte, zM_isWay_L60, a1, qa_ltT, qa_lit, nI_add, qa_ix, qa_cl, ef, eg, h2, qa_eqF]
        exact ih
      · obtain ⟨pf, sf⟩ := hpl f hf h1
        obtain ⟨pg, sg⟩ := hpl g (by omega) h2
        have p1 := qm_placeOf (w := w) (t := t) (f := f) ht (by omega)
        have p2 := qm_placeOf (w := w) (t := t) (f := g) ht (by omega)
        rw [pf] at p1
        rw [pg] at p2
        by_cases h3 : sp g < sp f
        · have ec := qm_crossing hp3 e2 f64 g64 fb gb
          have z : qw_x (qs_or hm pn) sp S f g = qj_aa (qs_or hm pn) (S f) (S g) := by unfold qw_x; rw [decide_eq_true h1, decide_eq_true h2, decide_eq_true h3]; rfl
          rw [z]
          cases hc : qj_aa (qs_or hm pn) (S f) (S g)
          · rw [hc] at ec
            rw [Bool.false_or]
            simp (disch := omega) only [↓reduceIte, zM_isWay_L60, a1, qa_ltT, qa_lit, nI_add, qa_ix, qa_cl, ef, eg, qa_eqF, p1, p2, Option.bind_some, ec, qs_b, Bool.false_eq_true]
            exact ih
          · rw [hc] at ec
            rw [Bool.true_or, if_pos rfl]
            simp (disch := omega) only [↓reduceIte, zM_isWay_L60, a1, qa_ltT, qa_lit, nI_add, qa_ix, qa_cl, ef, eg, qa_eqF, p1, p2, Option.bind_some, ec, qs_b]
        · have z : qw_x (qs_or hm pn) sp S f g = false := by unfold qw_x; rw [decide_eq_false h3]; simp
          rw [z, Bool.false_or]
          simp (disch := omega) only [↓reduceIte, zM_isWay_L60, a1, qa_ltT, qa_ltF, qa_lit, nI_add, qa_ix, qa_cl, ef, eg, qa_eqF, p1, p2, Option.bind_some]
          exact ih
theorem qm_iwO (hp3 : pn ≤ 3) (e2 : ∀ p, p < pn → w.1 84 (10 + 2 * p) = nI (hm p) ∧ hm p < 8) (lfn : fn ≤ 6) (a1 : w.1 84 1 = nI fn) (ht : t < 24) (hS : ∀ g, S g < 64 ∧ ∀ j, j < 6 → (S g).testBit j = true → j < 2 * pn) (e96 : ∀ g, g < 6 → w.1 96 g = nI (S g)) (hpl : ∀ g, g < fn → S g ≠ 0 → w.1 84 (50 + 6 * t + g) = nI (sp g) ∧ sp g < 8) (hT : ∀ f, f < fn → zM_isThere (nI t) (nI f) w = some (qs_b (on f))) : ∀ (k n f o : Nat) (v3 : Int32), f + k = fn → k < n → o ≤ f → zM_isWay_L15 n (nI t) (nI o) v3 (nI f) w = some (qs_b (!qs_any (fun f => qs_any (fun g => qw_x (qs_or hm pn) sp S f g) 0 fn) f k && decide (¬ qp_a S v3 f k < nI (o + qw_of on f k) - w.1 84 2)))
  | 0, n + 1, f, o, v3, hf, _, _ => by
    have : f = fn := by omega
    subst this
    unfold qs_any qp_a qw_of
    by_cases hc : v3 < nI o - w.1 84 2
    · simp (disch := omega) only [↓reduceIte, zM_isWay_L15, a1, qa_ltF, qa_lit, hc, Nat.add_zero, not_true_eq_false, decide_false, Bool.and_false]
      rfl
    · simp (disch := omega) only [↓reduceIte, zM_isWay_L15, a1, qa_ltF, qa_lit, hc, Nat.add_zero, not_false_eq_true, decide_true, Bool.and_true]
      rfl
  | k + 1, n + 1, f, o, v3, hf, hn, ho => by
    have eT := hT f (by omega)
    have ef := e96 f (by omega)
    obtain ⟨f64, fb⟩ := hS f
    have eb := qm_bits f64
    have go : zM_isWay_L15 (n + 1) (nI t) (nI o) v3 (nI f) w = zM_isWay_L60 (fun v1 v2 v3 v4 w => zM_isWay_L15 n v1 v2 v3 v4 w) am_N (nI t) (nI (o + (if on f then 0 else 1))) (v3 - nI (qs_bn (S f))) (nI f) (nI 0) w := by
      cases hof : on f
      · rw [hof] at eT
        simp (disch := omega) only [↓reduceIte, ↓qa_b, zM_isWay_L15, zM_isWay_J42, a1, qa_ltT, qa_lit, eT, Option.bind_some, qs_b, qa_ix, qa_cl, ef, eb, nI_add, Bool.false_eq_true]
      · rw [hof] at eT
        simp (disch := omega) only [↓reduceIte, ↓qa_b, zM_isWay_L15, zM_isWay_J42, a1, qa_ltT, qa_lit, eT, Option.bind_some, qs_b, qa_ix, qa_cl, ef, eb, nI_add, qa_eqF]
    have eI := qm_iwI hp3 e2 lfn a1 ht hS e96 hpl (show f < fn by omega) (nI (o + (if on f then 0 else 1))) (v3 - nI (qs_bn (S f))) (fun v1 v2 v3 v4 w => zM_isWay_L15 n v1 v2 v3 v4 w) fn am_N 0 (by omega) (Nat.lt_of_le_of_lt lfn (by decide))
    have hol : o + (if on f then 0 else 1) ≤ f + 1 := by split <;> omega
    have ih := qm_iwO hp3 e2 lfn a1 ht hS e96 hpl hT k n (f + 1) (o + (if on f then 0 else 1)) (v3 - nI (qs_bn (S f))) (by omega) (by omega) hol
    rw [go, eI]
    rw [show ∀ q : Nat → Bool, qs_any q f (k + 1) = (q f || qs_any q (f + 1) k) from fun _ => rfl]
    cases hx : qs_any (fun g => qw_x (qs_or hm pn) sp S f g) 0 fn
    · simp only [Bool.false_eq_true, if_false, Bool.false_or]
      rw [ih, show qp_a S v3 f (k + 1) = qp_a S (v3 - nI (qs_bn (S f))) (f + 1) k from rfl, show qw_of on f (k + 1) = (if on f then 0 else 1) + qw_of on (f + 1) k from rfl, Nat.add_assoc]
    · rfl
end
