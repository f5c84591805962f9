/-! THE HEART: the reader: what the reference asks of a token -/
theorem qt_kd : ∀ i, i < 37 → ∀ j, j < 37 → 21 ≤ i → 21 ≤ j → qt_kind i = qt_kind j → i = j := by decide +kernel
theorem qt_k2 : ∀ i, i < 37 → 21 ≤ i → qt_kind i ≠ 2 ∧ qt_kind i ≠ 3 ∧ qt_kind i < 100 := by decide +kernel
section
variable {T : Nat} {kd : Int32} {wd : Int64}
theorem qt_is (R : qt_R T kd wd) {j : Nat} (h1 : 21 ≤ j) (h2 : j ≤ 36) {k : Nat} (hk : qt_kind j = k) : (kd = nI k) = (T = j) := by
  subst hk
  have q := qt_k2 j (by omega) h1
  apply propext
  rcases R with ⟨a, b, c⟩ | ⟨a, b, c⟩ | ⟨a, b | ⟨b, -⟩⟩
  · rw [b]
    exact ⟨fun z => absurd ((nI_eq (by omega) (by omega)).mp z).symm q.1, fun z => by omega⟩
  · rw [c]
    have q' := qt_k2 T (by omega) a
    exact ⟨fun z => qt_kd T (by omega) j (by omega) a h1 ((nI_eq (by omega) (by omega)).mp z), fun z => by rw [z]⟩
  · rw [b]
    exact ⟨fun z => absurd ((nI_eq (by omega) (by omega)).mp z).symm q.2.1, fun z => by omega⟩
  · rw [b]
    exact ⟨fun z => absurd ((nI_eq (by omega) (by omega)).mp z).symm q.1, fun z => by omega⟩
theorem qt_cmp0 (x y : Int64) : (lg_cmp x y = nI 0) = (x = y) := by
  apply propext
  unfold lg_cmp
  constructor
  · intro h
    split at h
    · exact absurd h (by decide)
    · split at h
      · next q => exact q
      · exact absurd h (by decide)
  · intro h
    rw [h, if_neg (by simp), if_pos rfl]
    rfl
/-- is it this word? -/
theorem qt_wd (R : qt_R T kd wd) {j : Nat} (hj : j < 21) : (if kd = nI 2 then (if lg_cmp wd (lN (qt_code j)) = nI 0 then nI 1 else nI 0) else nI 0) = qs_b (decide (T = j)) := by
  have cj := (qt_w j hj).2.2.1
  rcases R with ⟨a, b, c⟩ | ⟨a, b, c⟩ | ⟨a, b | ⟨b, V, V1, V2, V3⟩⟩
  · rw [if_pos b, c]
    have ct := (qt_w T a).2.2.1
    have := qt_cmp0 (lN (qt_code T)) (lN (qt_code j))
    by_cases q : T = j
    · rw [decide_eq_true q, q, if_pos (by rw [qt_cmp0])]
      rfl
    · rw [decide_eq_false q, if_neg (by rw [qt_cmp0, pk_lEQ (by omega) (by omega)]; exact fun z => q (qt_cd T a j hj z))]
      rfl
  · rw [if_neg (by rw [c]; exact fun z => (qt_k2 T (by omega) a).1 ((nI_eq (by have := qt_k2 T (by omega) a; omega) (by omega)).mp z)), decide_eq_false (by omega)]
    rfl
  · rw [if_neg (by rw [b]; decide), decide_eq_false (by omega)]
    rfl
  · rw [if_pos b, if_neg (by rw [qt_cmp0, V2, pk_lEQ V1 (by omega)]; exact V3 j hj), decide_eq_false (by omega)]
    rfl
theorem qt_W : zM_w3 (nI 110) (nI 111) (nI 116) = lN (qt_code 2) ∧ zM_w3 (nI 97) (nI 110) (nI 100) = lN (qt_code 1) ∧ (28530 : Int64) = lN (qt_code 0) ∧ zM_w3 (nI 109) (nI 97) (nI 121) = lN (qt_code 3) ∧ zM_w4 (nI 112) (nI 97) (nI 115) (nI 115) = lN (qt_code 4) ∧ zM_w5 (nI 115) (nI 104) (nI 111) (nI 119) (nI 115) = lN (qt_code 5) ∧ zM_w5 (nI 101) (nI 110) (nI 116) (nI 101) (nI 114) = lN (qt_code 6) ∧ zM_w4 (nI 101) (nI 120) (nI 105) (nI 116) = lN (qt_code 7) ∧ (26479 : Int64) = lN (qt_code 8) ∧ zM_w3 (nI 104) (nI 105) (nI 116) = lN (qt_code 9) ∧ zM_w4 (nI 98) (nI 101) (nI 97) (nI 116) = lN (qt_code 10) := by decide +kernel
theorem qt_W' : zM_w6 (nI 102) (nI 105) (nI 103) (nI 117) (nI 114) (nI 101) = lN (qt_code 12) ∧ zM_w4 (nI 107) (nI 105) (nI 110) (nI 100) = lN (qt_code 13) ∧ zM_w5 (nI 112) (nI 108) (nI 97) (nI 99) (nI 101) = lN (qt_code 14) ∧ zM_w3 (nI 119) (nI 104) (nI 111) = lN (qt_code 15) ∧ zM_w5 (nI 114) (nI 105) (nI 103) (nI 104) (nI 116) = lN (qt_code 16) ∧ zM_w4 (nI 102) (nI 114) (nI 111) (nI 109) = lN (qt_code 17) ∧ (29807 : Int64) = lN (qt_code 18) ∧ zM_w4 (nI 115) (nI 101) (nI 97) (nI 116) = lN (qt_code 19) ∧ zM_w4 (nI 109) (nI 97) (nI 110) (nI 121) = lN (qt_code 20) ∧ (nI 24948).toInt64 = lN (qt_code 11) ∧ (nI 29807).toInt64 = lN (qt_code 18) := by decide +kernel
end
section
variable {T : Nat} {u : zHM}
theorem qt_isWordM (R : qt_R T (u.1 83 10) (u.2 83 12)) {j : Nat} (hj : j < 21) : zM_isWord (lN (qt_code j)) u = qs_b (decide (T = j)) := by
  rw [← qt_wd R hj]
  rfl
theorem qt_sort (R : qt_R T (u.1 83 10) (u.2 83 12)) : zM_sortOf u = (if 3 ≤ T ∧ T ≤ 10 then nI (T - 3) else qN) := by
  have w := fun {j : Nat} (hj : j < 21) => qt_isWordM R hj
  have g := qt_wd R (j := 8) (by omega)
  obtain ⟨w2, w1, w0, w3, w4, w5, w6, w7, w8, w9, w10⟩ := qt_W
  have J : zM_sortOf_J123 u = (if T = 9 then nI 6 else if T = 10 then nI 7 else qN) := by
    by_cases e9 : T = 9
    · simp (disch := omega) only [↓reduceIte, ↓qa_b, zM_sortOf_J123, w9, w, e9, qs_b0, qa_lit, decide_true, Bool.true_eq_false]
    · by_cases e10 : T = 10
      · simp (disch := omega) only [↓reduceIte, ↓qa_b, zM_sortOf_J123, w9, w10, w, e10, qs_b0, qa_lit, decide_true, decide_false, Bool.true_eq_false, Nat.reduceEqDiff]
      · simp (disch := omega) only [↓reduceIte, ↓qa_b, zM_sortOf_J123, w9, w10, w, decide_eq_false e9, decide_eq_false e10, qs_b0, qa_lit, if_neg e9, if_neg e10, qa_neg1]
  have G : (if (u.1 83 10) = nI 2 then (if (lg_cmp (u.2 83 12) (lN (qt_code 8))) = nI 0 then (nI 5) else (zM_sortOf_J123 u)) else (zM_sortOf_J123 u)) = (if T = 8 then nI 5 else zM_sortOf_J123 u) := by
    by_cases e8 : T = 8
    · rw [if_pos e8]
      rw [decide_eq_true e8] at g
      split at g
      · next q1 =>
        split at g
        · next q2 => rw [if_pos q1, if_pos q2]
        · exact absurd g (by decide)
      · exact absurd g (by decide)
    · rw [if_neg e8]
      rw [decide_eq_false e8] at g
      split at g
      · next q1 =>
        split at g
        · exact absurd g (by decide)
        · next q2 => rw [if_pos q1, if_neg q2]
      · next q1 => rw [if_neg q1]
  have key : zM_sortOf u = (if T = 3 then nI 0 else if T = 4 then nI 1 else if T = 5 then nI 2 else if T = 6 then nI 3 else if T = 7 then nI 4 else if T = 8 then nI 5 else zM_sortOf_J123 u) := by
    rw [← G]
    unfold zM_sortOf
    simp only [qa_b, w3, w4, w5, w6, w7, w8, w (show 3 < 21 by omega), w (show 4 < 21 by omega), w (show 5 < 21 by omega), w (show 6 < 21 by omega), w (show 7 < 21 by omega), qa_lit, qs_b0, decide_eq_false_iff_not, ite_not]
  rw [key, J]
  by_cases q : 3 ≤ T ∧ T ≤ 10
  · rw [if_pos q]
    rcases (show T = 3 ∨ T = 4 ∨ T = 5 ∨ T = 6 ∨ T = 7 ∨ T = 8 ∨ T = 9 ∨ T = 10 by omega) with rfl | rfl | rfl | rfl | rfl | rfl | rfl | rfl <;> rfl
  · rw [if_neg q, if_neg (by omega), if_neg (by omega), if_neg (by omega), if_neg (by omega), if_neg (by omega), if_neg (by omega), if_neg (by omega), if_neg (by omega)]
/-- names -/
def qt_nm (T : Nat) : Nat := if T = 10 then 3 else if T ≤ 14 then T - 12 else T - 11
def qt_nq (T : Nat) : Bool := decide (T = 10) || (decide (12 ≤ T) && decide (T ≤ 20))
theorem qt_name (R : qt_R T (u.1 83 10) (u.2 83 12)) : zM_nameOf u = (if qt_nq T then nI (qt_nm T) else qN) := by
  obtain ⟨w12, w13, w14, w15, w16, w17, w18, w19, w20, -, -⟩ := qt_W'
  have w10 := qt_W.2.2.2.2.2.2.2.2.2.2
  have t := fun {j : Nat} (hj : j < 21) => qt_wd R hj
  by_cases k2 : u.1 83 10 = nI 2
  · have c : ∀ {j : Nat}, j < 21 → ((lg_cmp (u.2 83 12) (lN (qt_code j)) = nI 0) = (T = j)) := fun {j} hj => by
      have := t hj
      rw [if_pos k2] at this
      apply propext
      constructor
      · intro z
        rw [if_pos z] at this
        by_cases q : T = j
        · exact q
        · rw [decide_eq_false q] at this
          exact absurd this (by decide)
      · intro z
        by_cases q : lg_cmp (u.2 83 12) (lN (qt_code j)) = nI 0
        · exact q
        · rw [if_neg q, decide_eq_true z] at this
          exact absurd this (by decide)
    have key : zM_nameOf u = (if T = 12 then nI 0 else if T = 13 then nI 1 else if T = 14 then nI 2 else if T = 10 then nI 3 else if T = 15 then nI 4 else if T = 16 then nI 5 else if T = 17 then nI 6 else if T = 18 then nI 7 else if T = 19 then nI 8 else if T = 20 then nI 9 else qN) := by
      unfold zM_nameOf
      simp only [qa_b, w12, w13, w14, w15, w16, w17, w18, w19, w20, w10, qa_lit, k2, if_true, c (show 12 < 21 by omega), c (show 13 < 21 by omega), c (show 14 < 21 by omega), c (show 10 < 21 by omega), c (show 15 < 21 by omega), c (show 16 < 21 by omega), c (show 17 < 21 by omega), c (show 18 < 21 by omega), c (show 19 < 21 by omega), c (show 20 < 21 by omega), qa_neg1]
    rw [key]
    unfold qt_nq qt_nm
    by_cases q : T = 10 ∨ (12 ≤ T ∧ T ≤ 20)
    · rcases (show T = 10 ∨ T = 12 ∨ T = 13 ∨ T = 14 ∨ T = 15 ∨ T = 16 ∨ T = 17 ∨ T = 18 ∨ T = 19 ∨ T = 20 by omega) with rfl | rfl | rfl | rfl | rfl | rfl | rfl | rfl | rfl | rfl <;> rfl
    · rw [if_neg (by omega), if_neg (by omega), if_neg (by omega), if_neg (by omega), if_neg (by omega), if_neg (by omega), if_neg (by omega), if_neg (by omega), if_neg (by omega), if_neg (by omega), if_neg (by rw [Bool.or_eq_true, Bool.and_eq_true, decide_eq_true_eq, decide_eq_true_eq, decide_eq_true_eq]; exact q)]
  · have nq : qt_nq T = false := by
      unfold qt_nq
      rcases R with ⟨a, b, c⟩ | ⟨a, b, c⟩ | ⟨a, -⟩
      · exact absurd b k2
      · simp; omega
      · subst a; rfl
    rw [nq]
    unfold zM_nameOf
    simp only [qa_lit, k2, if_false, qa_neg1, Bool.false_eq_true]
/-- comparisons -/
theorem qt_cmpO (R : qt_R T (u.1 83 10) (u.2 83 12)) : zM_compareOf u = (if 21 ≤ T ∧ T ≤ 26 then nI (T - 11) else qN) := by
  have i := fun {j : Nat} (h1 : 21 ≤ j) (h2 : j ≤ 36) {k : Nat} (hk : qt_kind j = k) => qt_is R h1 h2 hk
  have key : zM_compareOf u = (if T = 21 then nI 10 else if T = 22 then nI 11 else if T = 23 then nI 12 else if T = 24 then nI 13 else if T = 25 then nI 14 else if T = 26 then nI 15 else qN) := by
    unfold zM_compareOf
    simp only [qa_lit, i (j := 21) (by omega) (by omega) (k := 60) rfl, i (j := 22) (by omega) (by omega) (k := 4) rfl, i (j := 23) (by omega) (by omega) (k := 62) rfl, i (j := 24) (by omega) (by omega) (k := 5) rfl, i (j := 25) (by omega) (by omega) (k := 61) rfl, i (j := 26) (by omega) (by omega) (k := 35) rfl, qa_neg1]
  rw [key]
  by_cases q : 21 ≤ T ∧ T ≤ 26
  · rw [if_pos q]
    rcases (show T = 21 ∨ T = 22 ∨ T = 23 ∨ T = 24 ∨ T = 25 ∨ T = 26 by omega) with rfl | rfl | rfl | rfl | rfl | rfl <;> rfl
  · rw [if_neg q, if_neg (by omega), if_neg (by omega), if_neg (by omega), if_neg (by omega), if_neg (by omega), if_neg (by omega)]
end
