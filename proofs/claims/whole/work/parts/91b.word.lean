/-! THE HEART: the reader: words -/
theorem qa_upsm {α : Type} (f : Nat → α) (k : Nat) : va_up f k (f k) = f := by
  funext j
  by_cases e : j = k
  · rw [e, va_up_self]
  · rw [qa_une f (f k) e]
def qt_c (k : Nat) : Nat := zChr.getD k 0
def qt_len (j : Nat) : Nat := (List.range 6).countP (fun i => decide (qt_c (6 * j + i) ≠ 32))
/-- letters from s on, as one number -/
def qt_pk (b : Nat → Nat) (s : Nat) : Nat → Nat
  | 0 => 0
  | n + 1 => qt_pk b s n * 256 + b (s + n)
def qt_code (j : Nat) : Nat := qt_pk qt_c (6 * j) (qt_len j)
theorem qt_w : ∀ j, j < 21 → qt_len j ≤ 6 ∧ 1 ≤ qt_len j ∧ qt_code j < 2 ^ 48 ∧ ∀ i, i < 6 → (i < qt_len j → 97 ≤ qt_c (6 * j + i) ∧ qt_c (6 * j + i) ≤ 122) ∧ (qt_len j ≤ i → qt_c (6 * j + i) = 32) := by decide +kernel
theorem qt_cd : ∀ i, i < 21 → ∀ j, j < 21 → qt_code i = qt_code j → i = j := by decide +kernel
theorem qt_pk_lt {b : Nat → Nat} {s : Nat} : ∀ n, (∀ i, i < n → b (s + i) < 256) → qt_pk b s n < 256 ^ n
  | 0, _ => by unfold qt_pk; omega
  | n + 1, h => by
    have := qt_pk_lt (b := b) (s := s) n (fun i hi => h i (by omega))
    have := h n (by omega)
    unfold qt_pk
    rw [Nat.pow_succ]
    omega
theorem qt_pk_inj {b b' : Nat → Nat} {s s' : Nat} : ∀ n n', (∀ i, i < n → 1 ≤ b (s + i) ∧ b (s + i) < 256) → (∀ i, i < n' → 1 ≤ b' (s' + i) ∧ b' (s' + i) < 256) → qt_pk b s n = qt_pk b' s' n' → n = n' ∧ ∀ i, i < n → b (s + i) = b' (s' + i)
  | 0, 0, _, _, _ => ⟨rfl, fun i hi => by omega⟩
  | 0, n' + 1, _, h', e => by
    have := h' n' (by omega)
    rw [show qt_pk b s 0 = 0 from rfl, show qt_pk b' s' (n' + 1) = qt_pk b' s' n' * 256 + b' (s' + n') from rfl] at e
    omega
  | n + 1, 0, h, _, e => by
    have := h n (by omega)
    rw [show qt_pk b' s' 0 = 0 from rfl, show qt_pk b s (n + 1) = qt_pk b s n * 256 + b (s + n) from rfl] at e
    omega
  | n + 1, n' + 1, h, h', e => by
    have q1 := h n (by omega)
    have q2 := h' n' (by omega)
    rw [show qt_pk b s (n + 1) = qt_pk b s n * 256 + b (s + n) from rfl, show qt_pk b' s' (n' + 1) = qt_pk b' s' n' * 256 + b' (s' + n') from rfl] at e
    obtain ⟨e1, e2⟩ := qt_pk_inj n n' (fun i hi => h i (by omega)) (fun i hi => h' i (by omega)) (by omega)
    subst e1
    refine ⟨rfl, fun i hi => ?_⟩
    by_cases q : i = n
    · subst q
      omega
    · exact e2 i (by omega)
theorem qt_pk_c {b b' : Nat → Nat} {s s' : Nat} : ∀ n, (∀ i, i < n → b (s + i) = b' (s' + i)) → qt_pk b s n = qt_pk b' s' n
  | 0, _ => rfl
  | n + 1, h => by
    unfold qt_pk
    rw [qt_pk_c n (fun i hi => h i (by omega)), h n (by omega)]
def qt_pad (b : Nat → Nat) (s n i : Nat) : Nat := if i < n then b (s + i) else 32
/-- a letter -/
def qt_le (c : Nat) : Bool := (decide (97 ≤ c) && decide (c ≤ 122)) || (decide (65 ≤ c) && decide (c ≤ 90))
def qt_di (c : Nat) : Bool := decide (48 ≤ c) && decide (c ≤ 57)
theorem qt_le_b {c : Nat} (h : qt_le c = true) : 65 ≤ c ∧ c ≤ 122 := by
  unfold qt_le at h
  simp only [Bool.or_eq_true, Bool.and_eq_true, decide_eq_true_eq] at h
  omega
theorem qt_match {b : Nat → Nat} {s n j : Nat} (hn : n ≤ 6) (hj : j < 21) (hl : ∀ i, i < n → qt_le (b (s + i)) = true) : qs_all (fun i => decide (qt_pad b s n i = qt_c (6 * j + i))) 0 6 = decide (qt_pk b s n = qt_code j) := by
  obtain ⟨w1, w2, w3, w4⟩ := qt_w j hj
  have A : qs_all (fun i => decide (qt_pad b s n i = qt_c (6 * j + i))) 0 6 = true ↔ qt_pk b s n = qt_code j := by
    rw [qs_all_iff]
    constructor
    · intro h
      have en : n = qt_len j := by
        rcases Nat.lt_trichotomy n (qt_len j) with q | q | q
        · have := of_decide_eq_true (h n (by omega) (by omega))
          unfold qt_pad at this
          rw [if_neg (by omega)] at this
          have := ((w4 n (by omega)).1 q).1
          omega
        · exact q
        · have := of_decide_eq_true (h (qt_len j) (by omega) (by omega))
          unfold qt_pad at this
          rw [if_pos q, (w4 (qt_len j) (by omega)).2 (Nat.le_refl _)] at this
          have := (qt_le_b (hl _ q)).1
          omega
      unfold qt_code
      rw [← en]
      exact qt_pk_c n (fun i hi => by
        have := of_decide_eq_true (h i (by omega) (by omega))
        unfold qt_pad at this
        rw [if_pos hi] at this
        exact this)
    · intro e i _ hi
      obtain ⟨e1, e2⟩ := qt_pk_inj n (qt_len j) (fun i hi => by have := qt_le_b (hl i hi); omega) (fun i hi => by have := (w4 i (by omega)).1 hi; omega) e
      apply decide_eq_true
      unfold qt_pad
      split
      · next q => exact e2 i q
      · next q => exact ((w4 i (by omega)).2 (by omega)).symm
  cases q : qs_all (fun i => decide (qt_pad b s n i = qt_c (6 * j + i))) 0 6
  · exact (decide_eq_false (fun z => by rw [A.mpr z] at q; cases q)).symm
  · exact (decide_eq_true (A.mp q)).symm
section
variable {h : Nat → Nat → Int32} {b : Nat → Nat} {s n tl : Nat}
theorem qt_isWordL (ht : tl ≤ 300) (hs : s + n ≤ tl) (e2 : h 56 2 = nI (s + n)) (e4 : h 56 4 = nI s) (eb : ∀ j, j < tl → h 57 j = nI (b j) ∧ b j < 256) {j : Nat} (hj : j < 21) : ∀ (k m i : Nat), i + k = 6 → k < m → zT_isWord_L18 m (nI j) (nI i) h = some (qs_b (qs_all (fun i => decide (qt_pad b s n i = qt_c (6 * j + i))) i k))
  | 0, m + 1, i, hi, _ => by
    have : i = 6 := by omega
    subst this
    simp (disch := omega) only [↓reduceIte, zT_isWord_L18, qa_lit, qa_ltF]
    rfl
  | k + 1, m + 1, i, hi, hm => by
    obtain ⟨w1, w2, w3, w4⟩ := qt_w j hj
    have ih := qt_isWordL ht hs e2 e4 eb hj k m (i + 1) (by omega) (by omega)
    have bc : qt_c (6 * j + i) < 256 := by
      have := w4 i (by omega)
      rcases Nat.lt_or_ge i (qt_len j) with q | q
      · have := this.1 q; omega
      · have := this.2 q; omega
    have bp : qt_pad b s n i < 256 := by
      unfold qt_pad
      split
      · exact (eb _ (by omega)).2
      · omega
    rw [show qs_all (fun i => decide (qt_pad b s n i = qt_c (6 * j + i))) i (k + 1) = (decide (qt_pad b s n i = qt_c (6 * j + i)) && qs_all (fun i => decide (qt_pad b s n i = qt_c (6 * j + i))) (i + 1) k) from rfl]
    have ec : zChr.getD (j * 6 + i) 0 = qt_c (6 * j + i) := by unfold qt_c; rw [Nat.mul_comm]
    have en : ∀ k, Int32.ofNat k = nI k := fun _ => rfl
    have J : zT_isWord_J53 (fun v1 v2 h => zT_isWord_L18 m v1 v2 h) (nI j) (nI i) (nI (qt_pad b s n i)) h = some (qs_b (decide (qt_pad b s n i = qt_c (6 * j + i)) && qs_all (fun i => decide (qt_pad b s n i = qt_c (6 * j + i))) (i + 1) k)) := by
      by_cases q : qt_pad b s n i = qt_c (6 * j + i)
      · rw [decide_eq_true q, Bool.true_and, ← ih, q]
        simp (disch := omega) only [↓reduceIte, ↓qa_b, zT_isWord_J53, qa_lit, pk_mul, nI_add, qa_ix, qa_cl, ec, en]
      · rw [decide_eq_false q, Bool.false_and]
        simp (disch := omega) only [↓reduceIte, ↓qa_b, zT_isWord_J53, qa_lit, pk_mul, nI_add, qa_ix, qa_cl, ec, en, qa_eqF]
        rfl
    rw [← J]
    unfold qt_pad
    by_cases q : i < n
    · have q1 := (eb (s + i) (by omega)).1
      rw [if_pos q]
      simp (disch := omega) only [↓reduceIte, zT_isWord_L18, qa_lit, qa_ltT, e4, e2, nI_add, qa_ix, qa_cl, q1]
    · rw [if_neg q]
      simp (disch := omega) only [↓reduceIte, zT_isWord_L18, qa_lit, qa_ltT, qa_ltF, e4, e2, nI_add]
theorem qt_isWord (ht : tl ≤ 300) (hs : s + n ≤ tl) (e2 : h 56 2 = nI (s + n)) (e4 : h 56 4 = nI s) (eb : ∀ j, j < tl → h 57 j = nI (b j) ∧ b j < 256) (hl : ∀ i, i < n → qt_le (b (s + i)) = true) {j : Nat} (hj : j < 21) : zT_isWord (nI j) h = some (qs_b (decide (qt_pk b s n = qt_code j))) := by
  obtain ⟨w1, w2, w3, w4⟩ := qt_w j hj
  by_cases q : n ≤ 6
  · rw [← qt_match q hj hl, ← qt_isWordL ht hs e2 e4 eb hj 6 am_N 0 (by omega) (by decide)]
    simp (disch := omega) only [↓reduceIte, zT_isWord, qa_lit, e2, e4, qa_sub, Nat.add_sub_cancel_left, qa_ltF]
  · have : qt_pk b s n ≠ qt_code j := fun e => by
      obtain ⟨e1, -⟩ := qt_pk_inj n (qt_len j) (fun i hi => by have := qt_le_b (hl i hi); omega) (fun i hi => by have := (w4 i (by omega)).1 hi; omega) e
      omega
    rw [decide_eq_false this]
    simp (disch := omega) only [↓reduceIte, zT_isWord, qa_lit, e2, e4, qa_sub, Nat.add_sub_cancel_left, qa_ltT]
    rfl
/-- and finds which one it is -/
theorem qt_words (ht : tl ≤ 300) (hs : s + n ≤ tl) (eb : ∀ j, j < tl → h 57 j = nI (b j) ∧ b j < 256) (hl : ∀ i, i < n → qt_le (b (s + i)) = true) (e2 : h 56 2 = nI (s + n)) (e4 : h 56 4 = nI s) : ∀ (k m j : Nat), j + k = 21 → k < m → h 56 3 = nI 37 → (∀ i, i < j → qt_pk b s n ≠ qt_code i) → ∃ T, zT_takeWord_L47 m (nI j) h = some (va_up h 56 (upd (h 56) 3 (nI T))) ∧ (T < 21 ∧ qt_pk b s n = qt_code T ∨ T = 37 ∧ ∀ i, i < 21 → qt_pk b s n ≠ qt_code i)
  | 0, m + 1, j, hj, _, e3, hi => by
    have : j = 21 := by omega
    subst this
    refine ⟨37, ?_, Or.inr ⟨rfl, hi⟩⟩
    have : va_up h 56 (upd (h 56) 3 (nI 37)) = h := by rw [fa_upd_same e3, qa_upsm]
    rw [this]
    simp (disch := omega) only [↓reduceIte, zT_takeWord_L47, qa_lit, qa_ltF]
  | k + 1, m + 1, j, hj, hm, e3, hi => by
    have ew := qt_isWord ht hs e2 e4 eb hl (show j < 21 by omega)
    by_cases q : qt_pk b s n = qt_code j
    · refine ⟨j, ?_, Or.inl ⟨by omega, q⟩⟩
      rw [decide_eq_true q] at ew
      obtain ⟨m', rfl⟩ : ∃ m', m = m' + 1 := ⟨m - 1, by omega⟩
      have z : zT_takeWord_L47 (m' + 1) (nI (j + 1)) (va_up h 56 (upd (h 56) 3 (nI j))) = some (va_up h 56 (upd (h 56) 3 (nI j))) := by
        by_cases q' : j + 1 < 21
        · simp (disch := omega) only [↓reduceIte, zT_takeWord_L47, qa_lit, qa_ltT, va_up_self, pk_us, qa_eqF]
        · simp (disch := omega) only [↓reduceIte, zT_takeWord_L47, qa_lit, qa_ltF]
      rw [← z]
      simp (disch := omega) only [↓reduceIte, ↓qa_b, zT_takeWord_L47.eq_2, qa_lit, qa_ltT, e3, ew, Option.bind_some, qs_b0, Bool.true_eq_false, nI_add]
    · rw [decide_eq_false q] at ew
      obtain ⟨T, x1, x2⟩ := qt_words ht hs eb hl e2 e4 k m (j + 1) (by omega) (by omega) e3 (fun i hi' => by
        by_cases z : i = j
        · subst z; exact q
        · exact hi i (by omega))
      refine ⟨T, ?_, x2⟩
      rw [← x1]
      simp (disch := omega) only [↓reduceIte, zT_takeWord_L47, qa_lit, qa_ltT, e3, ew, Option.bind_some, qs_b0, nI_add]
end
