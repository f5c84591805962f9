/-! THE HEART: the law's loop answers 1 -/
theorem qJ_stop {n i : Nat} (hn : n ≤ 385) (hi : i ≤ 1000) (h : n < i + 6) : ((Int32.ofNat n) - 6) < nI i := by
  rw [show (6 : Int32) = nI 6 from qa_lit 6]
  show nI n - nI 6 < nI i
  by_cases h6 : 6 ≤ n
  · rw [qa_sub h6]
    exact nI_lt (by omega) (by omega)
  · have e : ∀ m, m < 6 → nI m - nI 6 < nI 0 := by decide
    have := e n (by omega)
    rw [show (nI n - nI 6 < nI i) = True from qa_neg_lt this (by omega)]
    trivial
theorem qJ_go {n i : Nat} (hn : n ≤ 385) (h : i + 6 ≤ n) : ¬ ((Int32.ofNat n) - 6) < nI i := by
  rw [show (6 : Int32) = nI 6 from qa_lit 6]
  show ¬ nI n - nI 6 < nI i
  rw [qa_sub (by omega)]
  exact nI_nlt (by omega) (by omega)
theorem qJ_no {β : Type} {c : Prop} [Decidable c] {k : Option β} (h : ¬ c) : am_no c k = k := if_neg h
theorem qJ_in {n i : Nat} (hn : n ≤ 385) (h : i < n) : ¬ (nI i < 0 ∨ n ≤ (nI i).toNatClampNeg) := by
  rw [qa_cl (by omega), show (0 : Int32) = nI 0 from qa_lit 0]
  intro q
  rcases q with q | q
  · exact absurd q (nI_nlt (by omega) (by omega))
  · omega
section
variable {Xs : Nat × (Nat → Int32)}
set_option maxHeartbeats 4000000 in
theorem qJ_step (hX : Xs.1 ≤ 385) {k : Nat} (hk : k ≤ 1000) (hi : 6 * k + 7 ≤ Xs.1) {h : Nat → Nat → Int32} {w : zHM} (I : qi_inv k h w) (n : Nat) : ∃ h' w', qi_inv (k + 1) h' w' ∧ zW_law_L28 Xs (n + 1) (nI (6 * k + 1)) (h, w) = zW_law_L28 Xs n (nI (6 * (k + 1) + 1)) (h', w') := by
  have e6 : nI (6 * k + 1) + 6 = nI (6 * (k + 1) + 1) := by rw [show (6 : Int32) = nI 6 from qa_lit 6, nI_add, show 6 * k + 1 + 6 = 6 * (k + 1) + 1 by omega]
  have g0 := qJ_in hX (show 6 * k + 1 < Xs.1 by omega)
  have f1 : nI (6 * k + 1) + 1 = nI (6 * k + 2) := by rw [show (1 : Int32) = nI 1 from qa_lit 1, nI_add]
  have g1 := qJ_in hX (show 6 * k + 2 < Xs.1 by omega)
  have f2 : nI (6 * k + 1) + 2 = nI (6 * k + 3) := by rw [show (2 : Int32) = nI 2 from qa_lit 2, nI_add]
  have g2 := qJ_in hX (show 6 * k + 3 < Xs.1 by omega)
  have f3 : nI (6 * k + 1) + 3 = nI (6 * k + 4) := by rw [show (3 : Int32) = nI 3 from qa_lit 3, nI_add]
  have g3 := qJ_in hX (show 6 * k + 4 < Xs.1 by omega)
  have f4 : nI (6 * k + 1) + 4 = nI (6 * k + 5) := by rw [show (4 : Int32) = nI 4 from qa_lit 4, nI_add]
  have g4 := qJ_in hX (show 6 * k + 5 < Xs.1 by omega)
  have f5 : nI (6 * k + 1) + 5 = nI (6 * k + 6) := by rw [show (5 : Int32) = nI 5 from qa_lit 5, nI_add]
  have g5 := qJ_in hX (show 6 * k + 6 < Xs.1 by omega)
  rw [zW_law_L28.eq_2, if_neg (qJ_go hX (by omega)), e6]
  simp only [f1, f2, f3, f4, f5, qJ_no g0, qJ_no g1, qJ_no g2, qJ_no g3, qJ_no g4, qJ_no g5, qa_b]
  generalize Xs.2 ((nI (6 * k + 1)).toNatClampNeg) &&& 31 = x
  generalize Xs.2 ((nI (6 * k + 2)).toNatClampNeg) = y1
  generalize Xs.2 ((nI (6 * k + 3)).toNatClampNeg) = y2
  generalize Xs.2 ((nI (6 * k + 4)).toNatClampNeg) = y3
  generalize Xs.2 ((nI (6 * k + 5)).toNatClampNeg) = y4
  generalize Xs.2 ((nI (6 * k + 6)).toNatClampNeg) = y5
  by_cases c : x = 0
  · rw [if_pos c]
    obtain ⟨r, h', w', e1, e2, I'⟩ := qJ_puppeteer I y1 y2
    refine ⟨h', w', I', ?_⟩
    simp only [e1, e2, Option.bind_some, ↓reduceIte]
  rw [if_neg c]
  clear c
  by_cases c : x = 1
  · rw [if_pos c]
    obtain ⟨r, h', w', e1, e2, I'⟩ := qJ_figure I y1 y2
    refine ⟨h', w', I', ?_⟩
    simp only [e1, e2, Option.bind_some, ↓reduceIte]
  rw [if_neg c]
  clear c
  by_cases c : x = 2
  · rw [if_pos c]
    obtain ⟨r, h', w', e1, e2, I'⟩ := qJ_rules I y1 y2
    replace e2 := Option.some.inj e2
    refine ⟨h', w', I', ?_⟩
    simp only [e1, e2, Option.bind_some, ↓reduceIte]
  rw [if_neg c]
  clear c
  by_cases c : x = 3
  · rw [if_pos c]
    obtain ⟨r, h', w', e1, e2, I'⟩ := qJ_feed I y1 y2 y3 y4 y5
    refine ⟨h', w', I', ?_⟩
    simp only [e1, e2, Option.bind_some, ↓reduceIte]
  rw [if_neg c]
  clear c
  by_cases c : x = 4
  · rw [if_pos c]
    obtain ⟨r, h', w', e1, e2, I'⟩ := qJ_end I y1
    replace e1 := Option.some.inj e1
    replace e2 := Option.some.inj e2
    refine ⟨h', w', I', ?_⟩
    simp only [e1, e2, Option.bind_some, ↓reduceIte]
  rw [if_neg c]
  clear c
  by_cases c : x = 5
  · rw [if_pos c]
    obtain ⟨r, h', w', e1, e2, I'⟩ := qJ_text I
    refine ⟨h', w', I', ?_⟩
    simp only [e1, e2, Option.bind_some, ↓reduceIte]
  rw [if_neg c]
  clear c
  by_cases c : x = 6
  · rw [if_pos c]
    refine ⟨h, w, I.up, ?_⟩
    rw [if_pos (qJ_fault I y1)]
  rw [if_neg c]
  clear c
  by_cases c : x = 7
  · rw [if_pos c]
    obtain ⟨r, h', w', e1, e2, I'⟩ := qJ_by I y1
    replace e2 := Option.some.inj e2
    refine ⟨h', w', I', ?_⟩
    simp only [e1, e2, Option.bind_some, ↓reduceIte]
  rw [if_neg c]
  clear c
  by_cases c : x = 8
  · rw [if_pos c]
    obtain ⟨r, h', w', e1, e2, I'⟩ := qJ_played hk I y1
    refine ⟨h', w', I', ?_⟩
    simp only [e1, e2, Option.bind_some, ↓reduceIte]
  rw [if_neg c]
  clear c
  by_cases c : x = 9
  · rw [if_pos c]
    obtain ⟨r, h', w', e1, e2, I'⟩ := qJ_clear I
    refine ⟨h', w', I', ?_⟩
    simp only [e1, e2, Option.bind_some, ↓reduceIte]
  rw [if_neg c]
  clear c
  by_cases c : x = 10
  · rw [if_pos c]
    obtain ⟨r, e1, e2⟩ := qJ_at I y1 y2
    refine ⟨h, w, I.up, ?_⟩
    simp only [e1, e2, Option.bind_some, ↓reduceIte]
  rw [if_neg c]
  clear c
  by_cases c : x = 11
  · rw [if_pos c]
    obtain ⟨r, h', w', e1, e2, I'⟩ := qJ_hold I y1 y2 y3
    refine ⟨h', w', I', ?_⟩
    simp only [e1, e2, Option.bind_some, ↓reduceIte]
  rw [if_neg c]
  clear c
  by_cases c : x = 12
  · rw [if_pos c]
    obtain ⟨r, e1, e2⟩ := qJ_held I y1 y2
    refine ⟨h, w, I.up, ?_⟩
    simp only [e1, e2, Option.bind_some, ↓reduceIte]
  rw [if_neg c]
  clear c
  by_cases c : x = 13
  · rw [if_pos c]
    obtain ⟨r, h', w', e1, e2, I'⟩ := qJ_judge I y1
    refine ⟨h', w', I', ?_⟩
    simp only [e1, e2, Option.bind_some, ↓reduceIte]
  rw [if_neg c]
  clear c
  by_cases c : x = 14
  · rw [if_pos c]
    obtain ⟨r, e1, e2⟩ := qJ_swaps I
    refine ⟨h, w, I.up, ?_⟩
    simp only [e1, e2, Option.bind_some, ↓reduceIte]
  rw [if_neg c]
  clear c
  by_cases c : x = 15
  · rw [if_pos c]
    obtain ⟨r, e1, e2⟩ := qJ_longest I y1
    refine ⟨h, w, I.up, ?_⟩
    simp only [e1, e2, Option.bind_some, ↓reduceIte]
  rw [if_neg c]
  clear c
  by_cases c : x = 16
  · rw [if_pos c]
    obtain ⟨r, h', w', e1, e2, I'⟩ := qJ_fewest I y1
    refine ⟨h', w', I', ?_⟩
    simp only [e1, e2, Option.bind_some, ↓reduceIte]
  rw [if_neg c]
  clear c
  by_cases c : x = 17
  · rw [if_pos c]
    obtain ⟨r, h', w', e1, e2, I'⟩ := qJ_found I y1 y2 y3
    refine ⟨h', w', I', ?_⟩
    simp only [e1, e2, Option.bind_some, ↓reduceIte]
  rw [if_neg c]
  clear c
  by_cases c : x = 18
  · rw [if_pos c]
    obtain ⟨r, h', w', e1, e2, I'⟩ := qJ_take I y1
    refine ⟨h', w', I', ?_⟩
    simp only [e1, e2, Option.bind_some, ↓reduceIte]
  rw [if_neg c]
  clear c
  by_cases c : x = 19
  · rw [if_pos c]
    obtain ⟨r, h', w', e1, e2, I'⟩ := qJ_least I
    refine ⟨h', w', I', ?_⟩
    simp only [e1, e2, Option.bind_some, ↓reduceIte]
  rw [if_neg c]
  clear c
  by_cases c : x = 20
  · rw [if_pos c]
    obtain ⟨r, h', w', e1, e2, I'⟩ := qJ_strike hk I y1 y2
    refine ⟨h', w', I', ?_⟩
    simp only [e1, e2, Option.bind_some, ↓reduceIte]
  rw [if_neg c]
  clear c
  by_cases c : x = 21
  · rw [if_pos c]
    obtain ⟨r, h', w', e1, e2, I'⟩ := qJ_ill I y1 y2
    refine ⟨h', w', I', ?_⟩
    simp only [e1, e2, Option.bind_some, ↓reduceIte]
  rw [if_neg c]
  clear c
  by_cases c : x = 22
  · rw [if_pos c]
    obtain ⟨r, h', w', e1, e2, I'⟩ := qJ_bound I y1
    refine ⟨h', w', I', ?_⟩
    simp only [e1, e2, Option.bind_some, ↓reduceIte]
  rw [if_neg c]
  clear c
  by_cases c : x = 23
  · rw [if_pos c]
    obtain ⟨r, h', w', e1, e2, I'⟩ := qJ_sees I y1 y2
    refine ⟨h', w', I', ?_⟩
    simp only [e1, e2, Option.bind_some, ↓reduceIte]
  rw [if_neg c]
  clear c
  by_cases c : x = 24
  · rw [if_pos c]
    obtain ⟨r, h', w', e1, e2, I'⟩ := qJ_image I
    replace e1 := Option.some.inj e1
    refine ⟨h', w', I', ?_⟩
    simp only [e1, e2, Option.bind_some, ↓reduceIte]
  rw [if_neg c]
  clear c
  by_cases c : x = 25
  · rw [if_pos c]
    obtain ⟨r, h', w', e1, e2, I'⟩ := qJ_back I
    refine ⟨h', w', I', ?_⟩
    simp only [e1, e2, Option.bind_some, ↓reduceIte]
  rw [if_neg c]
  clear c
  by_cases c : x = 26
  · rw [if_pos c]
    obtain ⟨r, e1, e2⟩ := qJ_about I y1
    refine ⟨h, w, I.up, ?_⟩
    simp only [e1, e2, Option.bind_some, ↓reduceIte]
  rw [if_neg c]
  clear c
  exact ⟨h, w, I.up, rfl⟩
theorem qJ_loop (hX : Xs.1 ≤ 385) : ∀ (d n k : Nat) (h : Nat → Nat → Int32) (w : zHM), Xs.1 < 6 * k + 7 + 6 * d → d < n → 6 * k + 1 ≤ 1000 → k + d ≤ 160 → qi_inv k h w → ∃ q', zW_law_L28 Xs n (nI (6 * k + 1)) (h, w) = some (1, q')
  | d, 0, k, h, w, _, hn, _, _, _ => by omega
  | d, n + 1, k, h, w, hl, hn, hk, hd, I => by
    by_cases hs : Xs.1 < 6 * k + 7
    · refine ⟨(h, w), ?_⟩
      rw [zW_law_L28.eq_2, if_pos (qJ_stop hX hk (by omega))]
    · obtain ⟨h', w', I', e⟩ := qJ_step hX (by omega) (by omega) I n
      rw [e]
      match d, hl, hn, hd with
      | 0, hl, _, _ => omega
      | d + 1, hl, hn, hd => exact qJ_loop hX d n (k + 1) h' w' (by omega) (by omega) (by omega) (by omega) I'
end
