/-! THE HEART: search: swaps between two ways, in the reference -/
/-- the price of going from way x to way y, at c each; x is of the beat ahead, y of this one -/
def qz_s (o0 o1 : Nat → Bool) (ps : Nat → Nat → Nat → Bool) (ow : Nat → Nat → Nat) (c : Nat) (x y : Nat → Nat) : Nat → Nat → Nat → Nat
  | s, _, 0 => s
  | s, f, k + 1 => if o0 f = true ∧ o1 f = true ∧ x f ≠ y f then (if ps f (ow f (x f)) (ow f (y f)) then qz_s o0 o1 ps ow c x y (s + c) (f + 1) k else 1000000) else qz_s o0 o1 ps ow c x y s (f + 1) k
def qz_i (kd st k l : Nat) : Bool := decide (qs_ho kd st k = 0) || (decide (qs_ho kd st k ≠ qs_ho kd st l) || decide (k = l))
theorem qz_inj' : ∀ kd, kd < 3 → ∀ st, st < 8 → ∀ k, k < 6 → ∀ l, l < 6 → qz_i kd st k l = true := by decide +kernel
theorem qz_inj (kd : Nat) (h1 : kd < 3) (st : Nat) (h2 : st < 8) (k : Nat) (h3 : k < 6) (l : Nat) (h4 : l < 6) : qs_ho kd st k = 0 ∨ qs_ho kd st k ≠ qs_ho kd st l ∨ k = l := by
  have := qz_inj' kd h1 st h2 k h3 l h4
  unfold qz_i at this
  rw [Bool.or_eq_true, Bool.or_eq_true, decide_eq_true_eq, decide_eq_true_eq, decide_eq_true_eq] at this
  exact this
section
variable {fn st t i j : Nat} {u : zHM} {o0 o1 : Nat → Bool} {kd : Nat → Nat} {x y : Nat → Nat} {ps : Nat → Nat → Nat → Bool}
theorem qz_swL (lfn : fn ≤ 6) (hst : st < 8) (a1 : u.1 84 1 = nI fn) (ht : t + 1 < 24) (hi : i < 720) (hj : j < 720) (hkd : ∀ f, f < fn → kd f < 3)
    (ex : ∀ f, f < fn → u.1 92 (6 * (720 * t + i) + f) = nI (if o0 f then qs_ho (kd f) st (x f) else 0) ∧ (o0 f = true → x f < 6 ∧ qs_ho (kd f) st (x f) ≠ 0))
    (ey : ∀ f, f < fn → u.1 92 (6 * (720 * (t + 1) + j) + f) = nI (if o1 f then qs_ho (kd f) st (y f) else 0) ∧ (o1 f = true → y f < 6 ∧ qs_ho (kd f) st (y f) ≠ 0))
    (ep : ∀ f, f < fn → o1 f = true → ∀ p, p < 3 → ∀ q, q < 3 → u.1 97 (9 * f + 3 * p + q) = qs_b (ps f p q)) :
    ∀ (k n f s : Nat), f + k = fn → k < n → s ≤ f → zM_swapped_L6 n (nI (t + 1)) (nI i) (nI j) (nI s) (nI f) u = some (nI (qz_s o0 o1 ps (fun f k => if kd f = 2 then k else k / 2) 1 x y s f k))
  | 0, n + 1, f, s, hf, _, hs => by
    have : f = fn := by omega
    subst this
    simp (disch := omega) only [↓reduceIte, zM_swapped_L6, a1, qa_ltF, qz_s]
  | k + 1, n + 1, f, s, hf, hn, hs => by
    have ih0 := qz_swL lfn hst a1 ht hi hj hkd ex ey ep k n (f + 1) s (by omega) (by omega) (by omega)
    have ih1 := qz_swL lfn hst a1 ht hi hj hkd ex ey ep k n (f + 1) (s + 1) (by omega) (by omega) (by omega)
    obtain ⟨x1, x2⟩ := ex f (by omega)
    obtain ⟨y1, y2⟩ := ey f (by omega)
    have d := hkd f (by omega)
    unfold qz_s
    cases h0 : o0 f
    · rw [h0, if_neg (by decide)] at x1
      rw [if_neg (by simp)]
      simp (disch := omega) only [↓reduceIte, zM_swapped_L6, zM_setOf, a1, qa_ltT, qa_lit, qa_sub, Nat.add_sub_cancel, pk_mul, nI_add, qa_ix, qa_cl, x1, Option.bind_some]
      exact ih0
    · rw [h0, if_pos rfl] at x1
      obtain ⟨xl, xn⟩ := x2 h0
      have xb := qs_ho_lt (kd f) d st hst (x f) xl
      cases h1 : o1 f
      · rw [h1, if_neg (by decide)] at y1
        rw [if_neg (by simp)]
        simp (disch := omega) only [↓reduceIte, zM_swapped_L6, zM_setOf, a1, qa_ltT, qa_lit, qa_sub, Nat.add_sub_cancel, pk_mul, nI_add, qa_ix, qa_cl, x1, y1, Option.bind_some, qa_eqF]
        exact ih0
      · rw [h1, if_pos rfl] at y1
        obtain ⟨yl, yn⟩ := y2 h1
        have yb := qs_ho_lt (kd f) d st hst (y f) yl
        by_cases he : x f = y f
        · rw [if_neg (by simp [he])]
          rw [he] at x1
          simp (disch := omega) only [↓reduceIte, zM_swapped_L6, zM_setOf, a1, qa_ltT, qa_lit, qa_sub, Nat.add_sub_cancel, pk_mul, nI_add, qa_ix, qa_cl, x1, y1, Option.bind_some, qa_eqF]
          exact ih0
        · have hne : qs_ho (kd f) st (x f) ≠ qs_ho (kd f) st (y f) := by
            rcases qz_inj (kd f) d st hst (x f) xl (y f) yl with q | q | q
            · exact absurd q xn
            · exact q
            · exact absurd q he
          rw [if_pos ⟨rfl, rfl, he⟩]
          have lx := qm_lowest' xb (by omega)
          have ly := qm_lowest' yb (by omega)
          have ox := (qs_ho_lo (kd f) d st hst (x f) xl xn).1
          have oy := (qs_ho_lo (kd f) d st hst (y f) yl yn).1
          have px := (qs_ho_st (kd f) d st hst (x f) xl xn).2
          have py := (qs_ho_st (kd f) d st hst (y f) yl yn).2
          have bx := qs_lo_lt (qs_ho (kd f) st (x f))
          have bY := qs_lo_lt (qs_ho (kd f) st (y f))
          have dx : nI (qs_lo (qs_ho (kd f) st (x f))) / nI 2 = nI (if kd f = 2 then x f else x f / 2) := by rw [← ox]; exact pk_div (by omega) (by omega) (by omega)
          have dy : nI (qs_lo (qs_ho (kd f) st (y f))) / nI 2 = nI (if kd f = 2 then y f else y f / 2) := by rw [← oy]; exact pk_div (by omega) (by omega) (by omega)
          have e97 := ep f (by omega) h1 _ px _ py
          generalize (if kd f = 2 then x f else x f / 2) = p at *
          generalize (if kd f = 2 then y f else y f / 2) = q at *
          cases hps : ps f p q
          · rw [hps] at e97
            simp (disch := omega) only [↓reduceIte, zM_swapped_L6, zM_setOf, a1, qa_ltT, qa_lit, qa_sub, Nat.add_sub_cancel, pk_mul, nI_add, qa_ix, qa_cl, x1, y1, Option.bind_some, qa_eqF, lx, ly, dx, dy, e97, qs_b, Bool.false_eq_true]
          · rw [hps] at e97
            simp (disch := omega) only [↓reduceIte, zM_swapped_L6, zM_setOf, a1, qa_ltT, qa_lit, qa_sub, Nat.add_sub_cancel, pk_mul, nI_add, qa_ix, qa_cl, x1, y1, Option.bind_some, qa_eqF, lx, ly, dx, dy, e97, qs_b]
            exact ih1
end
