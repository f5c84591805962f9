/-! THE HEART: what holds between the class's heap h and the reference's w, between two calls -/
/-- a stage of the class, at the cells o + 1 .. o + 9, holds what the row a of the reference holds -/
def qi_stg (o P pn fn tn bn : Nat) (h : Nat → Nat → Int32) (a : Nat → Int32) : Prop :=
  (h (o + 1) 0 = nI P ∧ h (o + 1) 1 = nI pn ∧ h (o + 1) 4 = nI fn ∧ h (o + 1) 9 = a 2 ∧ h (o + 1) 10 = a 3 ∧ h (o + 1) 11 = nI tn ∧ h (o + 1) 12 = a 5 ∧ h (o + 1) 13 = nI bn) ∧
  (∀ p, p < pn → h (o + 2) p = a (10 + 2 * p) ∧ h (o + 3) p = a (10 + 2 * p + 1)) ∧
  (∀ f, f < fn → h (o + 4) f = a (20 + 2 * f) ∧ h (o + 5) f = a (20 + 2 * f + 1) ∧ h (o + 6) f = a (34 + f) ∧ h (o + 7) f = a (40 + f)) ∧
  (∀ f, fn ≤ f → f < 6 → h (o + 6) f = nI 0 ∧ h (o + 7) f = qN) ∧
  (∀ t f, t < bn → f < fn → h (o + 8) (t * 6 + f) = a (50 + 6 * t + f) ∧ h (o + 9) (t * 6 + f) = a (200 + 6 * t + f)) ∧
  (∀ t f, t < bn → fn ≤ f → f < 6 → h (o + 8) (t * 6 + f) = qN) ∧
  (∀ t f, t < 24 → f < 6 → (bn ≤ t ∨ fn ≤ f) → h (o + 9) (t * 6 + f) = nI 0)
/-- the row a of the reference: what lies in it; at most L lines a figure -/
def qi_a (L P pn fn tn bn : Nat) (a : Nat → Int32) : Prop :=
  (a 0 = nI pn ∧ a 1 = nI fn ∧ a 4 = nI tn ∧ a 6 = nI bn ∧ pn ≤ 3 ∧ fn ≤ 6 ∧ tn ≤ 4 ∧ bn ≤ 24) ∧
  (∃ x, x ≤ 6 ∧ a 2 = nI x) ∧ (∃ x, x ≤ 24 ∧ a 3 = nI x) ∧ (a 5 = qN ∨ ∃ x, x < tn ∧ a 5 = nI x) ∧
  (∀ p, p < pn → (∃ x, x < P ∧ a (10 + 2 * p) = nI x) ∧ ∃ x, x ≤ 7 ∧ a (10 + 2 * p + 1) = nI x) ∧
  (∀ f, f < fn → (∃ x, x ≤ 2 ∧ a (20 + 2 * f) = nI x) ∧ (∃ x, 1 ≤ x ∧ x ≤ 99 ∧ a (20 + 2 * f + 1) = nI x) ∧ (∃ x, x ≤ L ∧ a (34 + f) = nI x) ∧ (a (40 + f) = qN ∨ ∃ x, x < P ∧ a (40 + f) = nI x)) ∧
  (∀ t f, t < bn → f < fn → (a (50 + 6 * t + f) = qN ∨ ∃ x, x < P ∧ a (50 + 6 * t + f) = nI x) ∧ ∃ x, x < 4 ^ pn ∧ a (200 + 6 * t + f) = nI x)
/-- a name's number in the class, by its number in the reference; a code of the class, by the reference's -/
def qi_nm (v : Nat) : Nat := if v = 0 then 12 else if v = 1 then 13 else if v = 2 then 14 else if v = 3 then 10 else 11 + v
def qi_cd (o v : Nat) : Nat := if o = 0 then v else if o = 1 then 10000 + qi_nm v else if o = 2 then 20038 else if o < 10 then 20024 + o else if o < 20 then 20011 + o else 20022 - o
def qi_okc (q : Nat × Nat) : Prop := (q.1 = 0 ∧ q.2 ≤ 9999) ∨ (q.1 = 1 ∧ q.2 ≤ 9) ∨ (q.2 = 0 ∧ ((2 ≤ q.1 ∧ q.1 ≤ 6) ∨ (10 ≤ q.1 ∧ q.1 ≤ 15) ∨ (20 ≤ q.1 ∧ q.1 ≤ 22)))
/-- how many values and truths stand behind a code -/
def qi_sh (o : Nat) (s : Nat × Nat) : Option (Nat × Nat) :=
  if o ≤ 1 then (if s.1 + s.2 < 60 then some (s.1 + 1, s.2) else none)
  else if o = 2 then (if 1 ≤ s.1 then some s else none)
  else if o < 10 then (if 2 ≤ s.1 then some (s.1 - 1, s.2) else none)
  else if o < 20 then (if s.1 = 2 then some (0, s.2 + 1) else none)
  else if o = 20 then (if s.1 = 0 ∧ 1 ≤ s.2 then some s else none)
  else (if s.1 = 0 ∧ 2 ≤ s.2 then some (0, s.2 - 1) else none)
def qi_run : List (Nat × Nat) → Nat × Nat → Option (Nat × Nat)
  | [], s => some s
  | q :: l, s => (qi_sh q.1 s).bind (qi_run l)
/-- a text of the class at the cells x .. x + 6, and of the reference from place m on: n clauses, codes cs -/
def qi_txt (x m : Nat) (h : Nat → Nat → Int32) (tx : Nat → Int32) : Prop := ∃ (n : Nat) (cs : List (Nat × Nat)), n ≤ 50 ∧ cs.length ≤ 300 ∧ h x 0 = nI n ∧ tx m = nI n ∧
  (∀ (j : Nat) (hj : j < cs.length), qi_okc cs[j] ∧ h (x + 4) j = nI (qi_cd cs[j].1 cs[j].2) ∧ tx (m + 185 + 2 * j) = nI cs[j].1 ∧ tx (m + 185 + 2 * j + 1) = nI cs[j].2) ∧
  (∀ i, i < n → ∃ s, s ≤ 7 ∧ tx (m + 1 + 3 * i) = nI s ∧ h (x + 1) i = nI (s + 3) ∧
    (3 ≤ s → s ≠ 7 → ∃ y, y ≤ 5 ∧ tx (m + 1 + 3 * i + 1) = nI y ∧ h (x + 2) i = nI y) ∧
    (s = 3 ∨ s = 5 ∨ s = 6 → ∃ y, y ≤ 7 ∧ tx (m + 1 + 3 * i + 2) = nI y ∧ h (x + 3) i = nI y) ∧
    (s < 3 → (∀ i', i' < n → i' ≠ i → tx (m + 1 + 3 * i') ≠ nI s) ∧ ∃ b e, b < e ∧ e ≤ cs.length ∧ tx (m + 1 + 3 * i + 1) = nI b ∧ tx (m + 1 + 3 * i + 2) = nI e ∧ h (x + 5) s = nI b ∧ h (x + 6) s = nI e ∧ qi_run ((cs.drop b).take (e - b)) (0, 0) = some (0, 1) ∧ ∀ q ∈ (cs.drop b).take (e - b), q.1 = 1 → q.2 ≤ 3 ∨ q.2 = 4 + 2 * s ∨ q.2 = 5 + 2 * s)) ∧
  (∀ s, s < 3 → (∀ i, i < n → tx (m + 1 + 3 * i) ≠ nI s) → h (x + 5) s = nI 0 ∧ h (x + 6) s = nI 0)
/-- all but what the class keeps of its findings -/
def qi_core (k P pn fn tn bn pn' fn' tn' bn' tl : Nat) (h : Nat → Nat → Int32) (w : zHM) : Prop :=
  (3 ≤ P ∧ P ≤ 8 ∧ w.1 83 2 = nI P ∧ tn' ≤ tn) ∧ qi_a (100 * k) P pn fn tn bn (w.1 84) ∧ qi_a (100 * k) P pn' fn' tn' bn' (w.1 85) ∧ qi_stg 0 P pn fn tn bn h (w.1 84) ∧ qi_stg 9 P pn' fn' tn' bn' h (w.1 85) ∧
  (w.1 83 5 = nI tl ∧ h 56 1 = nI tl ∧ tl ≤ 300 ∧ ∀ j, j < tl → h 57 j = w.1 87 j ∧ ∃ x, x < 256 ∧ w.1 87 j = nI x) ∧
  (h 55 1 = w.1 83 6 ∧ h 55 2 = w.1 83 7) ∧ (∀ i, i < tn → qi_txt (20 + 7 * i) (790 * i) h (w.1 86)) ∧ (∀ j, j < 3 → h 53 j = nI 0 ∧ h 54 j = nI 0)
/-- nothing is known of what was found -/
def qi_clr (h : Nat → Nat → Int32) : Prop := h 59 2 = nI 0 ∧ ∀ j, j < 8 → h 77 j = nI 0 ∧ h 80 j = nI 0
theorem qi_stg_h {o P pn fn tn bn : Nat} {h h' : Nat → Nat → Int32} {a : Nat → Int32} (e : ∀ c, o + 1 ≤ c → c ≤ o + 9 → h' c = h c) (H : qi_stg o P pn fn tn bn h a) : qi_stg o P pn fn tn bn h' a := by
  unfold qi_stg at H ⊢
  rw [e (o + 1) (by omega) (by omega), e (o + 2) (by omega) (by omega), e (o + 3) (by omega) (by omega), e (o + 4) (by omega) (by omega), e (o + 5) (by omega) (by omega), e (o + 6) (by omega) (by omega), e (o + 7) (by omega) (by omega), e (o + 8) (by omega) (by omega), e (o + 9) (by omega) (by omega)]
  exact H
theorem qi_txt_h {x m : Nat} {h h' : Nat → Nat → Int32} {tx : Nat → Int32} (e : ∀ c, x ≤ c → c ≤ x + 6 → h' c = h c) (H : qi_txt x m h tx) : qi_txt x m h' tx := by
  unfold qi_txt at H ⊢
  rw [e x (by omega) (by omega), e (x + 1) (by omega) (by omega), e (x + 2) (by omega) (by omega), e (x + 3) (by omega) (by omega), e (x + 4) (by omega) (by omega), e (x + 5) (by omega) (by omega), e (x + 6) (by omega) (by omega)]
  exact H
/-- rows from 58 on are no part of it -/
theorem qi_core_h {k P pn fn tn bn pn' fn' tn' bn' tl : Nat} {h h' : Nat → Nat → Int32} {w : zHM} (e : ∀ c, c ≤ 57 → h' c = h c) (H : qi_core k P pn fn tn bn pn' fn' tn' bn' tl h w) : qi_core k P pn fn tn bn pn' fn' tn' bn' tl h' w := by
  obtain ⟨h1, h2, h3, h4, h5, h6, h7, h8, h9⟩ := H
  refine ⟨h1, h2, h3, qi_stg_h (fun c _ hc => e c (by omega)) h4, qi_stg_h (fun c _ hc => e c (by omega)) h5, ?_, ?_, fun i hi => qi_txt_h (fun c _ hc => e c (by have := h2.1; omega)) (h8 i hi), ?_⟩
  · rw [e 56 (by omega), e 57 (by omega)]; exact h6
  · rw [e 55 (by omega)]; exact h7
  · rw [e 53 (by omega), e 54 (by omega)]; exact h9
theorem qi_core_w {k P pn fn tn bn pn' fn' tn' bn' tl : Nat} {h : Nat → Nat → Int32} {w w' : zHM} (e : w'.1 83 2 = w.1 83 2 ∧ w'.1 83 5 = w.1 83 5 ∧ w'.1 83 6 = w.1 83 6 ∧ w'.1 83 7 = w.1 83 7) (e2 : w'.1 84 = w.1 84 ∧ w'.1 85 = w.1 85 ∧ w'.1 86 = w.1 86 ∧ w'.1 87 = w.1 87) (H : qi_core k P pn fn tn bn pn' fn' tn' bn' tl h w) : qi_core k P pn fn tn bn pn' fn' tn' bn' tl h w' := by
  unfold qi_core at H ⊢
  rw [e.1, e.2.1, e.2.2.1, e.2.2.2, e2.1, e2.2.1, e2.2.2.1, e2.2.2.2]
  exact H
/-- more calls -/
theorem qi_a_k {L L' P pn fn tn bn : Nat} {a : Nat → Int32} (hk : L ≤ L') (H : qi_a L P pn fn tn bn a) : qi_a L' P pn fn tn bn a := by
  obtain ⟨h1, h2, h3, h4, h5, h6, h7⟩ := H
  refine ⟨h1, h2, h3, h4, h5, fun f hf => ?_, h7⟩
  obtain ⟨g1, g2, ⟨x, hx, e⟩, g4⟩ := h6 f hf
  exact ⟨g1, g2, ⟨x, by omega, e⟩, g4⟩
theorem qi_core_k {k k' P pn fn tn bn pn' fn' tn' bn' tl : Nat} {h : Nat → Nat → Int32} {w : zHM} (hk : k ≤ k') (H : qi_core k P pn fn tn bn pn' fn' tn' bn' tl h w) : qi_core k' P pn fn tn bn pn' fn' tn' bn' tl h w := by
  obtain ⟨h1, h2, h3, h4, h5, h6, h7, h8, h9⟩ := H
  exact ⟨h1, qi_a_k (by omega) h2, qi_a_k (by omega) h3, h4, h5, h6, h7, h8, h9⟩
/-! changed: nothing is known any more -/
theorem qi_forget : ∀ (k n i : Nat) (h : Nat → Nat → Int32), i + k = 8 → k < n → ∃ h', zF_forget_L2 n (nI i) h = some h' ∧ (∀ c, c ≠ 77 → c ≠ 80 → h' c = h c) ∧ (∀ j, i ≤ j → j < 8 → h' 77 j = nI 0 ∧ h' 80 j = nI 0) ∧ (∀ j, j < i → h' 77 j = h 77 j ∧ h' 80 j = h 80 j)
  | 0, n + 1, i, h, hi, _ => by
    refine ⟨h, ?_, fun _ _ _ => rfl, fun j h1 h2 => by omega, fun _ _ => ⟨rfl, rfl⟩⟩
    simp (disch := omega) only [qa_b, qa_lit, qa_neg1, qa_qN, nI_add, pk_mul, qa_ix, qa_cl, qa_ltT, qa_ltF, qa_eqT, qa_eqF, qa_nN, qa_Nn, qa_ltN, qa_Nlt, qa_NN, qa_ltNN, qa_sub, qa_dec, qa_dec0, qa_sub0, qa_incN, qa_31, qa_shr, qa_shl, qa_and1, va_up_self, qa_une, pk_us, pk_un, qa_up2, qa_upd2, Option.bind_some, if_true, if_false, and_true, true_and, and_self, qa_f1, qa_f2, zF_forget_L2]
  | k + 1, n + 1, i, h, hi, hn => by
    obtain ⟨h', e, g1, g2, g3⟩ := qi_forget k n (i + 1) (va_up (va_up h 77 (upd (h 77) i (nI 0))) 80 (upd (h 80) i (nI 0))) (by omega) (by omega)
    refine ⟨h', ?_, fun c a b => ?_, fun j h1 h2 => ?_, fun j hj => ?_⟩
    · simp (disch := omega) only [qa_b, qa_lit, qa_neg1, qa_qN, nI_add, pk_mul, qa_ix, qa_cl, qa_ltT, qa_ltF, qa_eqT, qa_eqF, qa_nN, qa_Nn, qa_ltN, qa_Nlt, qa_NN, qa_ltNN, qa_sub, qa_dec, qa_dec0, qa_sub0, qa_incN, qa_31, qa_shr, qa_shl, qa_and1, va_up_self, qa_une, pk_us, pk_un, qa_up2, qa_upd2, Option.bind_some, if_true, if_false, and_true, true_and, and_self, qa_f1, qa_f2, zF_forget_L2]
      exact e
    · rw [g1 c a b]
      simp (disch := omega) only [qa_b, qa_lit, qa_neg1, qa_qN, nI_add, pk_mul, qa_ix, qa_cl, qa_ltT, qa_ltF, qa_eqT, qa_eqF, qa_nN, qa_Nn, qa_ltN, qa_Nlt, qa_NN, qa_ltNN, qa_sub, qa_dec, qa_dec0, qa_sub0, qa_incN, qa_31, qa_shr, qa_shl, qa_and1, va_up_self, qa_une, pk_us, pk_un, qa_up2, qa_upd2, Option.bind_some, if_true, if_false, and_true, true_and, and_self, qa_f1, qa_f2]
    · by_cases hj : j = i
      · subst hj
        have := g3 j (by omega)
        rw [this.1, this.2]
        simp (disch := omega) only [qa_b, qa_lit, qa_neg1, qa_qN, nI_add, pk_mul, qa_ix, qa_cl, qa_ltT, qa_ltF, qa_eqT, qa_eqF, qa_nN, qa_Nn, qa_ltN, qa_Nlt, qa_NN, qa_ltNN, qa_sub, qa_dec, qa_dec0, qa_sub0, qa_incN, qa_31, qa_shr, qa_shl, qa_and1, va_up_self, qa_une, pk_us, pk_un, qa_up2, qa_upd2, Option.bind_some, if_true, if_false, and_true, true_and, and_self, qa_f1, qa_f2]
      · exact g2 j (by omega) h2
    · have := g3 j (by omega)
      rw [this.1, this.2]
      simp (disch := omega) only [qa_b, qa_lit, qa_neg1, qa_qN, nI_add, pk_mul, qa_ix, qa_cl, qa_ltT, qa_ltF, qa_eqT, qa_eqF, qa_nN, qa_Nn, qa_ltN, qa_Nlt, qa_NN, qa_ltNN, qa_sub, qa_dec, qa_dec0, qa_sub0, qa_incN, qa_31, qa_shr, qa_shl, qa_and1, va_up_self, qa_une, pk_us, pk_un, qa_up2, qa_upd2, Option.bind_some, if_true, if_false, and_true, true_and, and_self, qa_f1, qa_f2]
theorem qi_changed (h : Nat → Nat → Int32) : ∃ h', zH_changed h = some h' ∧ (∀ c, c ≤ 57 → h' c = h c) ∧ qi_clr h' := by
  obtain ⟨h', e, g1, g2, -⟩ := qi_forget 8 am_N 0 (va_up h 59 (upd (h 59) 2 (nI 0))) (by omega) (by decide)
  refine ⟨h', ?_, fun c hc => ?_, ?_, fun j hj => g2 j (by omega) hj⟩
  · unfold zH_changed zF_forget
    simp (disch := omega) only [qa_b, qa_lit, qa_neg1, qa_qN, nI_add, pk_mul, qa_ix, qa_cl, qa_ltT, qa_ltF, qa_eqT, qa_eqF, qa_nN, qa_Nn, qa_ltN, qa_Nlt, qa_NN, qa_ltNN, qa_sub, qa_dec, qa_dec0, qa_sub0, qa_incN, qa_31, qa_shr, qa_shl, qa_and1, va_up_self, qa_une, pk_us, pk_un, qa_up2, qa_upd2, Option.bind_some, if_true, if_false, and_true, true_and, and_self, qa_f1, qa_f2]
    rw [e]
    rfl
  · rw [g1 c (by omega) (by omega)]
    simp (disch := omega) only [qa_b, qa_lit, qa_neg1, qa_qN, nI_add, pk_mul, qa_ix, qa_cl, qa_ltT, qa_ltF, qa_eqT, qa_eqF, qa_nN, qa_Nn, qa_ltN, qa_Nlt, qa_NN, qa_ltNN, qa_sub, qa_dec, qa_dec0, qa_sub0, qa_incN, qa_31, qa_shr, qa_shl, qa_and1, va_up_self, qa_une, pk_us, pk_un, qa_up2, qa_upd2, Option.bind_some, if_true, if_false, and_true, true_and, and_self, qa_f1, qa_f2]
  · rw [g1 59 (by omega) (by omega)]
    simp (disch := omega) only [qa_b, qa_lit, qa_neg1, qa_qN, nI_add, pk_mul, qa_ix, qa_cl, qa_ltT, qa_ltF, qa_eqT, qa_eqF, qa_nN, qa_Nn, qa_ltN, qa_Nlt, qa_NN, qa_ltNN, qa_sub, qa_dec, qa_dec0, qa_sub0, qa_incN, qa_31, qa_shr, qa_shl, qa_and1, va_up_self, qa_une, pk_us, pk_un, qa_up2, qa_upd2, Option.bind_some, if_true, if_false, and_true, true_and, and_self, qa_f1, qa_f2]
/-- the reference's questions -/
theorem qm_place {w : zHM} {P : Nat} (hP : w.1 83 2 = nI P) (h8 : P ≤ 8) (v : Int32) : zM_isPlace v w = (if v < nI 0 then nI 0 else if v < nI P then nI 1 else nI 0) := by
  unfold zM_isPlace
  rw [qa_b, hP, show zM_isIn v 0 (nI P - 1) = zM_isIn v (nI 0) (nI P - nI 1) from rfl, qa_in00 v (by omega)]
  exact qa_bit _ _
theorem qm_figure {w : zHM} {n : Nat} (hn : w.1 84 1 = nI n) (h8 : n ≤ 6) (v : Int32) : zM_isFigure v w = (if v < nI 0 then nI 0 else if v < nI n then nI 1 else nI 0) := by
  unfold zM_isFigure
  rw [qa_b, hn, show zM_isIn v 0 (nI n - 1) = zM_isIn v (nI 0) (nI n - nI 1) from rfl, qa_in00 v (by omega)]
  exact qa_bit _ _
theorem qm_beat {w : zHM} {n : Nat} (hn : w.1 84 6 = nI n) (h8 : n ≤ 24) (v : Int32) : zM_isBeat v w = (if v < nI 0 then nI 0 else if v < nI n then nI 1 else nI 0) := by
  unfold zM_isBeat
  rw [qa_b, hn, show zM_isIn v 0 (nI n - 1) = zM_isIn v (nI 0) (nI n - nI 1) from rfl, qa_in00 v (by omega)]
  exact qa_bit _ _
/-- the stage and its row are new, all else is as it was -/
theorem qi_core_s {k P pn fn tn bn pn' fn' tn' bn' tl pn2 fn2 bn2 : Nat} {h h' : Nat → Nat → Int32} {w w' : zHM} (H : qi_core k P pn fn tn bn pn' fn' tn' bn' tl h w) (e : ∀ c, 10 ≤ c → c ≤ 57 → h' c = h c) (e1 : w'.1 83 = w.1 83) (e2 : w'.1 85 = w.1 85 ∧ w'.1 86 = w.1 86 ∧ w'.1 87 = w.1 87) (HA : qi_a (100 * (k + 1)) P pn2 fn2 tn bn2 (w'.1 84)) (HS : qi_stg 0 P pn2 fn2 tn bn2 h' (w'.1 84)) : qi_core (k + 1) P pn2 fn2 tn bn2 pn' fn' tn' bn' tl h' w' := by
  obtain ⟨h1, h2, h3, h4, h5, h6, h7, h8, h9⟩ := H
  have ht := h2.1
  unfold qi_core
  rw [e1, e2.1, e2.2.1, e2.2.2]
  refine ⟨h1, HA, qi_a_k (by omega) h3, HS, qi_stg_h (fun c _ hc => e c (by omega) (by omega)) h5, ?_, ?_, fun i hi => qi_txt_h (fun c hc1 hc => e c (by omega) (by omega)) (h8 i hi), ?_⟩
  · rw [e 56 (by omega) (by omega), e 57 (by omega) (by omega)]; exact h6
  · rw [e 55 (by omega) (by omega)]; exact h7
  · rw [e 53 (by omega) (by omega), e 54 (by omega) (by omega)]; exact h9
/-- what a call comes to: one answer; nothing has changed, or the findings are forgotten and all else holds again -/
def qi_res (k : Nat) (h : Nat → Nat → Int32) (w : zHM) (X : Option (Int32 × (Nat → Nat → Int32))) (M : Option (Int32 × zHM)) : Prop := ∃ r h' w', X = some (r, h') ∧ M = some (r, w') ∧ ((h' = h ∧ w' = w) ∨ (qi_clr h' ∧ ∃ P pn fn tn bn pn' fn' tn' bn' tl, qi_core (k + 1) P pn fn tn bn pn' fn' tn' bn' tl h' w'))
/-- the class's stage, in numbers without sums -/
theorem qi_stg0 {P pn fn tn bn : Nat} {h : Nat → Nat → Int32} {a : Nat → Int32} (H : qi_stg 0 P pn fn tn bn h a) :
  (h 1 0 = nI P ∧ h 1 1 = nI pn ∧ h 1 4 = nI fn ∧ h 1 9 = a 2 ∧ h 1 10 = a 3 ∧ h 1 11 = nI tn ∧ h 1 12 = a 5 ∧ h 1 13 = nI bn) ∧
  (∀ p, p < pn → h 2 p = a (10 + 2 * p) ∧ h 3 p = a (10 + 2 * p + 1)) ∧
  (∀ f, f < fn → h 4 f = a (20 + 2 * f) ∧ h 5 f = a (20 + 2 * f + 1) ∧ h 6 f = a (34 + f) ∧ h 7 f = a (40 + f)) ∧
  (∀ f, fn ≤ f → f < 6 → h 6 f = nI 0 ∧ h 7 f = qN) ∧
  (∀ t f, t < bn → f < fn → h 8 (t * 6 + f) = a (50 + 6 * t + f) ∧ h 9 (t * 6 + f) = a (200 + 6 * t + f)) ∧
  (∀ t f, t < bn → fn ≤ f → f < 6 → h 8 (t * 6 + f) = qN) ∧
  (∀ t f, t < 24 → f < 6 → (bn ≤ t ∨ fn ≤ f) → h 9 (t * 6 + f) = nI 0) := H
theorem qi_a_e {L P pn fn tn bn : Nat} {a a' : Nat → Int32} (e : ∀ j, j < 350 → a' j = a j) (H : qi_a L P pn fn tn bn a) : qi_a L P pn fn tn bn a' := by
  obtain ⟨⟨a0, a1, a4, a6, lpn, lfn, ltn, lbn⟩, A2, A3, A5, Ap, Af, At⟩ := H
  refine ⟨⟨?_, ?_, ?_, ?_, lpn, lfn, ltn, lbn⟩, ?_, ?_, ?_, fun p hp => ?_, fun f hf => ?_, fun t f ht hf => ?_⟩
  · rw [e 0 (by omega)]; exact a0
  · rw [e 1 (by omega)]; exact a1
  · rw [e 4 (by omega)]; exact a4
  · rw [e 6 (by omega)]; exact a6
  · rw [e 2 (by omega)]; exact A2
  · rw [e 3 (by omega)]; exact A3
  · rw [e 5 (by omega)]; exact A5
  · rw [e (10 + 2 * p) (by omega), e (10 + 2 * p + 1) (by omega)]; exact Ap p hp
  · rw [e (20 + 2 * f) (by omega), e (20 + 2 * f + 1) (by omega), e (34 + f) (by omega), e (40 + f) (by omega)]; exact Af f hf
  · rw [e (50 + 6 * t + f) (by omega), e (200 + 6 * t + f) (by omega)]; exact At t f ht hf
/-- a stage that was copied, cell by cell -/
theorem qi_stg_e {o o' L P pn fn tn bn : Nat} {h h' : Nat → Nat → Int32} {a a' : Nat → Int32} (HA : qi_a L P pn fn tn bn a) (e : ∀ j, j < 350 → a' j = a j) (e0 : h' (o' + 1) 0 = nI P) (e1 : ∀ j, j = 1 ∨ j = 4 ∨ (9 ≤ j ∧ j ≤ 13) → h' (o' + 1) j = h (o + 1) j) (e2 : ∀ j, j < 3 → h' (o' + 2) j = h (o + 2) j ∧ h' (o' + 3) j = h (o + 3) j) (e4 : ∀ j, j < 6 → h' (o' + 4) j = h (o + 4) j ∧ h' (o' + 5) j = h (o + 5) j ∧ h' (o' + 6) j = h (o + 6) j ∧ h' (o' + 7) j = h (o + 7) j) (e8 : ∀ j, j < 144 → h' (o' + 8) j = h (o + 8) j ∧ h' (o' + 9) j = h (o + 9) j) (H : qi_stg o P pn fn tn bn h a) : qi_stg o' P pn fn tn bn h' a' := by
  obtain ⟨⟨-, -, -, -, lpn, lfn, ltn, lbn⟩, -⟩ := HA
  obtain ⟨⟨s0, s1, s4, s9, s10, s11, s12, s13⟩, Sp, Sf, Sg, St, Su, Sv⟩ := H
  refine ⟨⟨e0, ?_, ?_, ?_, ?_, ?_, ?_, ?_⟩, fun p hp => ?_, fun f hf => ?_, fun f hf hf' => ?_, fun t f ht hf => ?_, fun t f ht hf hf' => ?_, fun t f ht hf hf' => ?_⟩
  · rw [e1 1 (by omega)]; exact s1
  · rw [e1 4 (by omega)]; exact s4
  · rw [e1 9 (by omega), e 2 (by omega)]; exact s9
  · rw [e1 10 (by omega), e 3 (by omega)]; exact s10
  · rw [e1 11 (by omega)]; exact s11
  · rw [e1 12 (by omega), e 5 (by omega)]; exact s12
  · rw [e1 13 (by omega)]; exact s13
  · rw [(e2 p (by omega)).1, (e2 p (by omega)).2, e (10 + 2 * p) (by omega), e (10 + 2 * p + 1) (by omega)]; exact Sp p hp
  · rw [(e4 f (by omega)).1, (e4 f (by omega)).2.1, (e4 f (by omega)).2.2.1, (e4 f (by omega)).2.2.2, e (20 + 2 * f) (by omega), e (20 + 2 * f + 1) (by omega), e (34 + f) (by omega), e (40 + f) (by omega)]; exact Sf f hf
  · rw [(e4 f (by omega)).2.2.1, (e4 f (by omega)).2.2.2]; exact Sg f hf hf'
  · rw [(e8 (t * 6 + f) (by omega)).1, (e8 (t * 6 + f) (by omega)).2, e (50 + 6 * t + f) (by omega), e (200 + 6 * t + f) (by omega)]; exact St t f ht hf
  · rw [(e8 (t * 6 + f) (by omega)).1]; exact Su t f ht hf hf'
  · rw [(e8 (t * 6 + f) (by omega)).2]; exact Sv t f ht hf hf'
/-- nothing that a search or a law stands on has changed -/
def qi_keep (h : Nat → Nat → Int32) (w : zHM) (h' : Nat → Nat → Int32) (w' : zHM) : Prop := (∀ c, 58 ≤ c → h' c = h c) ∧ (∀ j, j < 200 → w'.1 84 j = w.1 84 j) ∧ w'.1 86 = w.1 86
theorem qa_fill {n j : Nat} {v : Int32} {f : Nat → Int32} (h : j < n) : zfill n v f j = v := if_pos h
theorem qa_cpy {f g : Nat → Int32} {n j : Nat} (h : j < n) : va_cpy f g 0 0 n j = f j := by
  rw [pk_cpy_in (by omega) (by omega)]
  congr 1
  omega
