/-! THE HEART: search: the least of all, in the reference -/
section
variable {m : Nat} {u : zHM} {T : Nat → Nat}
theorem qz_loL (hm : m ≤ 720) (e93 : u.1 93 0 = nI m) (e94 : ∀ j, j < m → u.1 94 j = nI (T j) ∧ T j ≤ 1000000) : ∀ (k n j b : Nat), j + k = m → k < n → b ≤ 1000000 → zM_leastOf_L18 n (nI b) (nI j) u = some (nI (qz_m T b j k))
  | 0, n + 1, j, b, hj, _, hb => by
    have : j = m := by omega
    subst this
    simp (disch := omega) only [↓reduceIte, zM_leastOf_L18, e93, qa_ltF, qz_m]
  | k + 1, n + 1, j, b, hj, hn, hb => by
    obtain ⟨e1, e2⟩ := e94 j (by omega)
    rw [show qz_m T b j (k + 1) = qz_m T (min b (T j)) (j + 1) k from rfl]
    have ih := qz_loL hm e93 e94 k n (j + 1) (min b (T j)) (by omega) (by omega) (by omega)
    rw [← ih]
    by_cases h1 : T j < b
    · rw [show min b (T j) = T j by omega]
      simp (disch := omega) only [↓reduceIte, ↓qa_b, zM_leastOf_L18, qa_lit, nI_add, qa_ix, qa_cl, e93, qa_ltT, e1]
    · rw [show min b (T j) = b by omega]
      simp (disch := omega) only [↓reduceIte, ↓qa_b, zM_leastOf_L18, qa_lit, nI_add, qa_ix, qa_cl, e93, qa_ltT, qa_ltF, e1]
end
