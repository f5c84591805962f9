/-! THE HEART: search: the class looks a way up by its number -/
section
variable {lo hi s : Nat} {h : Nat → Nat → Int32} {F T : Nat → Nat}
theorem qz_bin (h1 : 1 ≤ lo) (hhi : hi ≤ 17280) (hs : s < 2147483648) (e71 : ∀ p, lo ≤ p → p < hi → h 71 p = nI (F p) ∧ F p < 2147483648) (e72 : ∀ p, lo ≤ p → p < hi → h 72 p = nI (T p)) (rise : ∀ p q, lo ≤ p → p < q → q < hi → F p < F q) : ∀ (n a b : Nat), b - a < n → lo ≤ a → a ≤ b → b ≤ hi → (∀ p, lo ≤ p → p < hi → F p = s → a ≤ p ∧ p < b) → (∃ p, lo ≤ p ∧ p < hi ∧ F p = s ∧ zS_priceOfSame_L18 n (nI s) (nI a) (nI (b - 1)) h = some (nI (T p))) ∨ ((∀ p, lo ≤ p → p < hi → F p ≠ s) ∧ zS_priceOfSame_L18 n (nI s) (nI a) (nI (b - 1)) h = some (nI 1000000))
  | 0, a, b, hn, _, _, _, _ => by omega
  | n + 1, a, b, hn, ha, hab, hb, hp => by
    by_cases hc : b ≤ a
    · right
      refine ⟨fun p q1 q2 e => by have := hp p q1 q2 e; omega, ?_⟩
      simp (disch := omega) only [↓reduceIte, zS_priceOfSame_L18, qa_ltT, qa_lit]
    · have ed : nI (a + (b - 1)) / nI 2 = nI ((a + (b - 1)) / 2) := pk_div (by omega) (by omega) (by omega)
      generalize hm : (a + (b - 1)) / 2 = m at ed
      have m1 : a ≤ m := by omega
      have m2 : m < b := by omega
      obtain ⟨f1, f2⟩ := e71 m (by omega) (by omega)
      have f3 := e72 m (by omega) (by omega)
      by_cases he : F m = s
      · left
        refine ⟨m, by omega, by omega, he, ?_⟩
        rw [he] at f1
        simp (disch := omega) only [↓reduceIte, ↓qa_b, zS_priceOfSame_L18, qa_ltF, qa_lit, nI_add, ed, qa_ix, qa_cl, f1, f3]
      · by_cases hl : F m < s
        · have ih := qz_bin h1 hhi hs e71 e72 rise n (m + 1) b (by omega) (by omega) (by omega) hb (fun p q1 q2 e => by
            have := hp p q1 q2 e
            refine ⟨?_, this.2⟩
            rcases Nat.lt_or_ge m p with q | q
            · omega
            · rcases Nat.lt_or_eq_of_le q with q | q
              · have := rise p m q1 q (by omega); omega
              · subst q; omega)
          have st : zS_priceOfSame_L18 (n + 1) (nI s) (nI a) (nI (b - 1)) h = zS_priceOfSame_L18 n (nI s) (nI (m + 1)) (nI (b - 1)) h := by
            simp (disch := omega) only [↓reduceIte, ↓qa_b, zS_priceOfSame_L18, qa_ltF, qa_ltT, qa_eqF, qa_lit, nI_add, ed, qa_ix, qa_cl, f1]
          rw [st]
          exact ih
        · have ih := qz_bin h1 hhi hs e71 e72 rise n a m (by omega) ha m1 (by omega) (fun p q1 q2 e => by
            have := hp p q1 q2 e
            refine ⟨this.1, ?_⟩
            rcases Nat.lt_or_ge p m with q | q
            · exact q
            · rcases Nat.lt_or_eq_of_le q with q | q
              · have := rise m p (by omega) q q2; omega
              · subst q; omega)
          have st : zS_priceOfSame_L18 (n + 1) (nI s) (nI a) (nI (b - 1)) h = zS_priceOfSame_L18 n (nI s) (nI a) (nI (m - 1)) h := by
            simp (disch := omega) only [↓reduceIte, ↓qa_b, zS_priceOfSame_L18, qa_ltF, qa_eqF, qa_lit, nI_add, ed, qa_ix, qa_cl, f1, qa_sub]
          rw [st]
          exact ih
end
