/-! THE HEART: the reader: the rows of a text -/
def qg_tx (x m : Nat) (h : Nat → Nat → Int32) (tx : Nat → Int32) (n : Nat) (cs : List (Nat × Nat)) : Prop :=
  (∀ i, i < n → ∃ s, s ≤ 7 ∧ tx (m + 1 + 3 * i) = nI s ∧ h (x + 1) i = nI (s + 3) ∧
    (3 ≤ s → s ≠ 7 → ∃ y, y ≤ 5 ∧ tx (m + 1 + 3 * i + 1) = nI y ∧ h (x + 2) i = nI y) ∧
    (s = 3 ∨ s = 5 ∨ s = 6 → ∃ y, y ≤ 7 ∧ tx (m + 1 + 3 * i + 2) = nI y ∧ h (x + 3) i = nI y) ∧
    (s < 3 → (∀ i', i' < n → i' ≠ i → tx (m + 1 + 3 * i') ≠ nI s) ∧ ∃ b e, b < e ∧ e ≤ cs.length ∧ tx (m + 1 + 3 * i + 1) = nI b ∧ tx (m + 1 + 3 * i + 2) = nI e ∧ h (x + 5) s = nI b ∧ h (x + 6) s = nI e ∧ qi_run ((cs.drop b).take (e - b)) (0, 0) = some (0, 1) ∧ ∀ q ∈ (cs.drop b).take (e - b), q.1 = 1 → q.2 ≤ 3 ∨ q.2 = 4 + 2 * s ∨ q.2 = 5 + 2 * s)) ∧
  (∀ s, s < 3 → (∀ i, i < n → tx (m + 1 + 3 * i) ≠ nI s) → h (x + 5) s = nI 0 ∧ h (x + 6) s = nI 0)
theorem qg_tx_add {x m n sr : Nat} {h h' : Nat → Nat → Int32} {tx tx' : Nat → Int32} {cs cx : List (Nat × Nat)} (H : qg_tx x m h tx n cs) (hsr : sr ≤ 7)
    (r1 : ∀ i, i < n → h' (x + 1) i = h (x + 1) i ∧ h' (x + 2) i = h (x + 2) i ∧ h' (x + 3) i = h (x + 3) i) (r2 : ∀ i, i < n → tx' (m + 1 + 3 * i) = tx (m + 1 + 3 * i) ∧ tx' (m + 1 + 3 * i + 1) = tx (m + 1 + 3 * i + 1) ∧ tx' (m + 1 + 3 * i + 2) = tx (m + 1 + 3 * i + 2))
    (n1 : tx' (m + 1 + 3 * n) = nI sr) (n2 : h' (x + 1) n = nI (sr + 3)) (n3 : 3 ≤ sr → sr ≠ 7 → ∃ y, y ≤ 5 ∧ tx' (m + 1 + 3 * n + 1) = nI y ∧ h' (x + 2) n = nI y) (n4 : sr = 3 ∨ sr = 5 ∨ sr = 6 → ∃ y, y ≤ 7 ∧ tx' (m + 1 + 3 * n + 2) = nI y ∧ h' (x + 3) n = nI y)
    (l1 : ∀ s, s < 3 → s ≠ sr → h' (x + 5) s = h (x + 5) s ∧ h' (x + 6) s = h (x + 6) s)
    (l2 : sr < 3 → (∀ i, i < n → tx (m + 1 + 3 * i) ≠ nI sr) ∧ ∃ b e, b < e ∧ e ≤ (cs ++ cx).length ∧ tx' (m + 1 + 3 * n + 1) = nI b ∧ tx' (m + 1 + 3 * n + 2) = nI e ∧ h' (x + 5) sr = nI b ∧ h' (x + 6) sr = nI e ∧ qi_run (((cs ++ cx).drop b).take (e - b)) (0, 0) = some (0, 1) ∧ ∀ q ∈ ((cs ++ cx).drop b).take (e - b), q.1 = 1 → q.2 ≤ 3 ∨ q.2 = 4 + 2 * sr ∨ q.2 = 5 + 2 * sr) : qg_tx x m h' tx' (n + 1) (cs ++ cx) := by
  obtain ⟨H1, H2⟩ := H
  refine ⟨fun i hi => ?_, fun s hs hn => ?_⟩
  · by_cases q : i = n
    · subst q
      refine ⟨sr, hsr, n1, n2, n3, n4, fun hs => ?_⟩
      obtain ⟨a, b, e, z1, z2, z3, z4, z5, z6, z7, z8⟩ := l2 hs
      exact ⟨fun i' h1 h2 => by rw [(r2 i' (by omega)).1]; exact a i' (by omega), b, e, z1, z2, z3, z4, z5, z6, z7, z8⟩
    · have hin : i < n := by omega
      obtain ⟨a1, a2, a3⟩ := r1 i hin
      obtain ⟨b1, b2, b3⟩ := r2 i hin
      obtain ⟨s, s7, k1, k2, k3, k4, k5⟩ := H1 i hin
      refine ⟨s, s7, by rw [b1]; exact k1, by rw [a1]; exact k2, fun q1 q2 => ?_, fun q1 => ?_, fun hs => ?_⟩
      · obtain ⟨y, y1, y2, y3⟩ := k3 q1 q2
        exact ⟨y, y1, by rw [b2]; exact y2, by rw [a2]; exact y3⟩
      · obtain ⟨y, y1, y2, y3⟩ := k4 q1
        exact ⟨y, y1, by rw [b3]; exact y2, by rw [a3]; exact y3⟩
      · obtain ⟨a, b, e, z1, z2, z3, z4, z5, z6, z7, z8⟩ := k5 hs
        have ns : s ≠ sr := fun z => (l2 (by rw [← z]; exact hs)).1 i hin (by rw [← z]; exact k1)
        have cut : ((cs ++ cx).drop b).take (e - b) = (cs.drop b).take (e - b) := by
          rw [List.drop_append_of_le_length (Nat.le_trans (Nat.le_of_lt z1) z2), List.take_append_of_le_length (by rw [List.length_drop]; exact Nat.sub_le_sub_right z2 b)]
        have s8 : s < 2147483648 := Nat.lt_of_le_of_lt s7 (by decide)
        have sr8 : sr < 2147483648 := Nat.lt_of_le_of_lt hsr (by decide)
        refine ⟨fun i' h1 h2 => ?_, b, e, z1, by rw [List.length_append]; exact Nat.le_trans z2 (Nat.le_add_right _ _), by rw [b2]; exact z3, by rw [b3]; exact z4, by rw [(l1 s hs ns).1]; exact z5, by rw [(l1 s hs ns).2]; exact z6, by rw [cut]; exact z7, by rw [cut]; exact z8⟩
        by_cases z : i' = n
        · rw [z, n1]
          exact fun y => ns ((nI_eq sr8 s8).mp y).symm
        · have hi' : i' < n := Nat.lt_of_le_of_ne (Nat.le_of_lt_succ h1) z
          rw [(r2 i' hi').1]
          exact a i' hi' h2
  · have ns : s ≠ sr := fun z => hn n (by omega) (by rw [n1, z])
    rw [(l1 s hs ns).1, (l1 s hs ns).2]
    exact H2 s hs (fun i hi => by rw [← (r2 i hi).1]; exact hn i (by omega))
theorem qg_dc_at {f : Nat → Int32} : ∀ (ds : List (Nat × Nat)), qg_dc f ds → ∀ (j : Nat) (hj : j < ds.reverse.length), f j = nI (qi_cd ds.reverse[j].1 ds.reverse[j].2)
  | [], _, j, hj => by simp at hj
  | q :: l, h, j, hj => by
    have ll : (q :: l).reverse = l.reverse ++ [q] := List.reverse_cons
    simp only [ll]
    by_cases z : j < l.reverse.length
    · rw [List.getElem_append_left z]
      exact qg_dc_at l h.2 j z
    · have jl : j = l.length := by
        rw [List.length_reverse] at hj z
        rw [List.length_cons] at hj
        omega
      subst jl
      rw [List.getElem_append_right (by rw [List.length_reverse]; omega)]
      simp only [List.length_reverse, Nat.sub_self, List.getElem_singleton]
      exact h.1
theorem qg_dr_at {g : Nat → Int32} {m : Nat} : ∀ (ds : List (Nat × Nat)), qg_dr g m ds → ∀ (j : Nat) (hj : j < ds.reverse.length), g (m + 185 + 2 * j) = nI ds.reverse[j].1 ∧ g (m + 185 + 2 * j + 1) = nI ds.reverse[j].2
  | [], _, j, hj => by simp at hj
  | q :: l, h, j, hj => by
    have ll : (q :: l).reverse = l.reverse ++ [q] := List.reverse_cons
    simp only [ll]
    by_cases z : j < l.reverse.length
    · rw [List.getElem_append_left z]
      exact qg_dr_at l h.2.2 j z
    · have jl : j = l.length := by
        rw [List.length_reverse] at hj z
        rw [List.length_cons] at hj
        omega
      subst jl
      rw [List.getElem_append_right (by rw [List.length_reverse]; omega)]
      simp only [List.length_reverse, Nat.sub_self, List.getElem_singleton]
      exact ⟨h.1, h.2.1⟩
theorem qg_dr_c {g g' : Nat → Int32} {m : Nat} (e : ∀ j, m + 185 ≤ j → g' j = g j) : ∀ ds : List (Nat × Nat), qg_dr g m ds → qg_dr g' m ds
  | [], _ => trivial
  | q :: l, h => ⟨by rw [e _ (by omega)]; exact h.1, by rw [e _ (by omega)]; exact h.2.1, qg_dr_c e l h.2.2⟩
/-- both readers between two clauses -/
def qg_TS (tl : Nat) (b : Nat → Nat) (x m : Nat) (h : Nat → Nat → Int32) (u : zHM) (sp nx T c : Nat) (ds : List (Nat × Nat)) (lb : Nat) : Prop :=
  qt_S tl b h u sp nx T ∧ (h x 0 = nI c ∧ u.1 86 m = nI c ∧ c ≤ 50) ∧ (h x 4 = nI ds.length ∧ qg_dc (h (x + 4)) ds) ∧ qg_K m u ds ∧ ds.length ≤ sp ∧ (∀ q ∈ ds, qi_okc q) ∧ qg_tx x m h (u.1 86) c ds.reverse ∧ (u.1 83 22 = nI lb ∧ lb < 8 ∧ ∀ s, s < 3 → (lb.testBit s = true ↔ ∃ i, i < c ∧ u.1 86 (m + 1 + 3 * i) = nI s)) ∧ u.1 83 19 = nI 0 ∧ h 55 1 = nI 0
/-- what lies beside the text -/
def qg_VH (x : Nat) (h h' : Nat → Nat → Int32) : Prop := ∀ c, c ≠ 55 → c ≠ 56 → c ≠ 58 → c < x ∨ x + 6 < c → h' c = h c
def qg_VU (m : Nat) (u u' : zHM) : Prop := (∀ c, c ≠ 83 → c ≠ 86 → c ≠ 88 → u'.1 c = u.1 c) ∧ (∀ j, j < 8 → u'.1 83 j = u.1 83 j) ∧ ∀ j, j < m ∨ m + 785 ≤ j → u'.1 86 j = u.1 86 j
theorem qg_bits : ∀ lb, lb < 8 → ∀ s, s < 3 → lb ||| 2 ^ s < 8 ∧ (∀ s', s' < 3 → (lb ||| 2 ^ s).testBit s' = (lb.testBit s' || decide (s' = s))) := by decide +kernel
section
variable {tl : Nat} {b : Nat → Nat} {x m : Nat} {h : Nat → Nat → Int32} {u : zHM} {sp nx T c : Nat} {ds : List (Nat × Nat)} {lb : Nat}
/-- is there such a law? -/
theorem qg_has (Z : qg_TS tl b x m h u sp nx T c ds lb) (hd : ds.length ≤ 300) {s : Nat} (hs : s < 3) : zX_hasLaw x (nI (s + 3)) h = some (qs_b (lb.testBit s)) := by
  obtain ⟨S, -, -, -, -, -, ⟨X1, X2⟩, ⟨l1, l2, l3⟩, -, -⟩ := Z
  have es : nI (s + 3) - nI 3 = nI s := by rw [qa_sub (by omega), Nat.add_sub_cancel]
  cases ht : lb.testBit s
  · have : ∀ i, i < c → u.1 86 (m + 1 + 3 * i) ≠ nI s := fun i hi z => by
      have := (l3 s hs).mpr ⟨i, hi, z⟩
      rw [ht] at this
      cases this
    obtain ⟨a1, a2⟩ := X2 s hs this
    simp (disch := omega) only [↓reduceIte, zX_hasLaw, es, qa_lit, qa_ix, qa_cl, a1, a2, qa_ltF]
    rfl
  · obtain ⟨i, i1, i2⟩ := (l3 s hs).mp ht
    obtain ⟨s', s7, k1, k2, k3, k4, k5⟩ := X1 i i1
    have : s' = s := by
      rw [i2] at k1
      exact ((nI_eq (by omega) (by omega)).mp k1).symm
    subst this
    obtain ⟨-, b', e', z1, z2, z3, z4, z5, z6, -⟩ := k5 hs
    rw [List.length_reverse] at z2
    simp (disch := omega) only [↓reduceIte, zX_hasLaw, es, qa_lit, qa_ix, qa_cl, z5, z6, qa_ltT]
    rfl
/-- behind a fault the class's loop ends -/
theorem qg_rdF {f : Nat} (hf : 1 ≤ f) (hf6 : f ≤ 6) (e1 : h 55 1 = nI f) (n v : Nat) (hv : v ≤ 1000) : zR_read_L23 (n + 1) x (nI v) h = some h := by
  by_cases q : 50 < v
  · simp (disch := omega) only [↓reduceIte, zR_read_L23, qa_lit, qa_ltT]
  · simp (disch := omega) only [↓reduceIte, zR_read_L23, qa_lit, qa_ltF, e1, qa_eqF]
end
