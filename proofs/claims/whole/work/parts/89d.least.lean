/-! THE HEART: search: the least price onward, in the reference -/
def qz_m (G : Nat → Nat) : Nat → Nat → Nat → Nat
  | b, _, 0 => b
  | b, j, k + 1 => qz_m G (min b (G j)) (j + 1) k
section
variable {t i m : Nat} {u : zHM} {sw T : Nat → Nat}
theorem qz_lfL (ht : t + 1 < 24) (hm : m ≤ 720) (e93 : u.1 93 (t + 1) = nI m) (e94 : ∀ j, j < m → u.1 94 (720 * (t + 1) + j) = nI (T j) ∧ T j ≤ 1000000) (esw : ∀ j, j < m → zM_swapped (nI (t + 1)) (nI i) (nI j) u = some (nI (sw j)) ∧ sw j ≤ 1000000) : ∀ (k n j b : Nat), j + k = m → k < n → b ≤ 1000000 → zM_leastFrom_L7 n (nI t) (nI i) (nI b) (nI j) u = some (nI (qz_m (fun j => sw j + T j) b j k))
  | 0, n + 1, j, b, hj, _, hb => by
    have : j = m := by omega
    subst this
    simp (disch := omega) only [↓reduceIte, zM_leastFrom_L7, qa_lit, nI_add, qa_ix, qa_cl, e93, qa_ltF, qz_m]
  | k + 1, n + 1, j, b, hj, hn, hb => by
    obtain ⟨e1, e2⟩ := e94 j (by omega)
    obtain ⟨e3, e4⟩ := esw j (by omega)
    rw [show qz_m (fun j => sw j + T j) b j (k + 1) = qz_m (fun j => sw j + T j) (min b (sw j + T j)) (j + 1) k from rfl]
    have ih := qz_lfL ht hm e93 e94 esw k n (j + 1) (min b (sw j + T j)) (by omega) (by omega) (by omega)
    rw [← ih]
    by_cases h1 : T j < b
    · by_cases h2 : sw j + T j < b
      · rw [show min b (sw j + T j) = sw j + T j by omega]
        simp (disch := omega) only [↓reduceIte, ↓qa_b, zM_leastFrom_L7, qa_lit, pk_mul, nI_add, qa_ix, qa_cl, e93, qa_ltT, e1, e3, Option.bind_some]
      · rw [show min b (sw j + T j) = b by omega]
        simp (disch := omega) only [↓reduceIte, ↓qa_b, zM_leastFrom_L7, qa_lit, pk_mul, nI_add, qa_ix, qa_cl, e93, qa_ltT, qa_ltF, e1, e3, Option.bind_some]
    · rw [show min b (sw j + T j) = b by omega]
      simp (disch := omega) only [↓reduceIte, ↓qa_b, zM_leastFrom_L7, qa_lit, pk_mul, nI_add, qa_ix, qa_cl, e93, qa_ltT, qa_ltF, e1]
theorem qz_lf (ht : t + 1 < 24) (hm : m ≤ 720) (e93 : u.1 93 (t + 1) = nI m) (e94 : ∀ j, j < m → u.1 94 (720 * (t + 1) + j) = nI (T j) ∧ T j ≤ 1000000) (esw : ∀ j, j < m → zM_swapped (nI (t + 1)) (nI i) (nI j) u = some (nI (sw j)) ∧ sw j ≤ 1000000) : zM_leastFrom (nI t) (nI i) u = some (nI (qz_m (fun j => sw j + T j) 1000000 0 m)) :=
  qz_lfL ht hm e93 e94 esw m am_N 0 1000000 (by omega) (Nat.lt_of_le_of_lt hm (by decide)) (Nat.le_refl _)
end
