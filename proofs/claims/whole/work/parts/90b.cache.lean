/-! THE HEART: what to strike, pure; all that the class remembers -/
def qk_w (a : Nat → Int32) (s : Nat) : Nat → Nat
  | 0 => 0
  | f + 1 => qk_w a s f + s / 2 ^ f % 2 * qv a (20 + 2 * f + 1) * qv a (34 + f)
/-- the best of those ahead of s: of the least weight, and of these the first -/
def qk_b (fe : Nat → Bool) (wt : Nat → Nat) : Nat → Option (Nat × Nat)
  | 0 => none
  | s + 1 => match qk_b fe wt s with
    | none => if fe s then some (s, wt s) else none
    | some q => if decide (wt s < q.2) && fe s then some (s, wt s) else some q
def qk_e1 : Option (Nat × Nat) → Int32
  | none => qN
  | some q => nI q.1
def qk_e2 : Option (Nat × Nat) → Int32
  | none => qN
  | some q => nI q.2
theorem qk_b_c {fe fe' : Nat → Bool} {wt wt' : Nat → Nat} : ∀ s, (∀ j, j < s → fe j = fe' j ∧ wt j = wt' j) → qk_b fe wt s = qk_b fe' wt' s
  | 0, _ => rfl
  | s + 1, h => by
    unfold qk_b
    rw [qk_b_c s (fun j hj => h j (by omega)), (h s (by omega)).1, (h s (by omega)).2]
theorem qk_b_le {fe : Nat → Bool} {wt : Nat → Nat} : ∀ s, ∀ j, j < s → fe j = true → ∃ q, qk_b fe wt s = some q ∧ q.2 ≤ wt j
  | s + 1, j, hj, hf => by
    unfold qk_b
    by_cases e : j = s
    · subst e
      cases hb : qk_b fe wt j with
      | none => exact ⟨_, by rw [hf]; rfl, Nat.le_refl _⟩
      | some q =>
        by_cases hw : wt j < q.2
        · exact ⟨_, by simp only [hf, decide_eq_true hw]; rfl, Nat.le_refl _⟩
        · exact ⟨_, by simp only [decide_eq_false hw]; rfl, by omega⟩
    · obtain ⟨q, q1, q2⟩ := qk_b_le s j (by omega) hf
      rw [q1]
      by_cases hw : wt s < q.2
      · cases hfs : fe s
        · exact ⟨_, by simp only [Bool.and_false]; rfl, q2⟩
        · exact ⟨_, by simp only [decide_eq_true hw]; rfl, by simp only; omega⟩
      · exact ⟨_, by simp only [decide_eq_false hw]; rfl, q2⟩
theorem qk_b_skip {fe : Nat → Bool} {wt : Nat → Nat} {s r : Nat} (hr : r < s) (hf : fe s = fe r) (hw : wt r ≤ wt s) : qk_b fe wt (s + 1) = qk_b fe wt s := by
  cases h : fe s
  · rw [show qk_b fe wt (s + 1) = (match qk_b fe wt s with | none => if fe s then some (s, wt s) else none | some q => if decide (wt s < q.2) && fe s then some (s, wt s) else some q) from rfl]
    cases hb : qk_b fe wt s with
    | none => simp [h]
    | some q => simp [h]
  · obtain ⟨q, q1, q2⟩ := qk_b_le (fe := fe) (wt := wt) s r hr (by rw [← hf]; exact h)
    rw [show qk_b fe wt (s + 1) = (match qk_b fe wt s with | none => if fe s then some (s, wt s) else none | some q => if decide (wt s < q.2) && fe s then some (s, wt s) else some q) from rfl, q1]
    simp only [decide_eq_false (show ¬ wt s < q.2 by omega), Bool.false_and]
    rfl
def qk_fe (a tx : Nat → Int32) (pn fn bn st : Nat) (or : Nat → Nat) (hk s : Nat) : Bool := decide (qe_R a tx pn fn bn st s or hk 1 0 < 1000000)
/-- what to strike for set st -/
def qk_B (a tx : Nat → Int32) (pn fn bn st : Nat) (or : Nat → Nat) (hk : Nat) : Option (Nat × Nat) := qk_b (qk_fe a tx pn fn bn st or hk) (fun s => qk_w a s fn) (2 ^ fn)
theorem qk_w_c {a a' tx tx' : Nat → Int32} (e : qc_e a a' tx tx') (s : Nat) : ∀ f, f ≤ 6 → qk_w a' s f = qk_w a s f
  | 0, _ => rfl
  | f + 1, h => by
    unfold qk_w
    rw [qk_w_c e s f (by omega), qc_v e (by omega) (by omega), qc_v e (by omega) (by omega)]
theorem qk_B_c {a a' tx tx' : Nat → Int32} (e : qc_e a a' tx tx') {pn fn bn st hk : Nat} {or : Nat → Nat} (hf : fn ≤ 6) (hb : bn ≤ 24) : qk_B a' tx' pn fn bn st or hk = qk_B a tx pn fn bn st or hk :=
  qk_b_c _ (fun j _ => ⟨by unfold qk_fe; rw [qe_R_c e hf hb], qk_w_c e j fn hf⟩)
/-- what the class remembers to strike for set j -/
def qi_kc (pn fn bn : Nat) (a tx : Nat → Int32) (or : Nat → Nat) (hk : Nat) (h : Nat → Nat → Int32) (j : Nat) : Prop := h 80 j = nI 0 ∨ (h 80 j = nI 1 ∧ h 81 j = qk_e1 (qk_B a tx pn fn bn j or hk) ∧ h 82 j = qk_e2 (qk_B a tx pn fn bn j or hk))
theorem qi_kc_c {pn fn bn : Nat} {a a' tx tx' : Nat → Int32} {or : Nat → Nat} {hk : Nat} {h h' : Nat → Nat → Int32} {j : Nat} (e : qc_e a a' tx tx') (hf : fn ≤ 6) (hb : bn ≤ 24) (e8 : h' 80 j = h 80 j ∧ h' 81 j = h 81 j ∧ h' 82 j = h 82 j) (H : qi_kc pn fn bn a tx or hk h j) : qi_kc pn fn bn a' tx' or hk h' j := by
  unfold qi_kc at H ⊢
  rw [e8.1, e8.2.1, e8.2.2, qk_B_c e hf hb]
  exact H
/-- all that the class remembers is right -/
def qi_cch (pn fn bn : Nat) (h : Nat → Nat → Int32) (a tx : Nat → Int32) : Prop := (h 59 2 = nI 0 ∨ h 59 2 = nI 1 ∧ qk_L a tx pn fn bn h) ∧ ∃ (hmo : Nat → Nat) (hk : Nat), (∀ p, p < pn → a (10 + 2 * p) = nI (hmo p) ∧ hmo p < 8) ∧ (a 2 = nI hk ∧ hk ≤ 6) ∧ ∀ j, j < 8 → qi_pc pn fn bn a tx (qs_or hmo pn) hk h j ∧ qi_kc pn fn bn a tx (qs_or hmo pn) hk h j
section
variable {k P pn fn tn bn pn' fn' tn' bn' tl : Nat} {h h' : Nat → Nat → Int32} {w : zHM}
/-- nothing is remembered -/
theorem qi_cch_clr (H : qi_core k P pn fn tn bn pn' fn' tn' bn' tl h w) (C : qi_clr h) : qi_cch pn fn bn h (w.1 84) (w.1 86) := by
  obtain ⟨hmo, -, e2⟩ := qi_homes H
  obtain ⟨hk, hk6, eh⟩ := H.2.1.2.1
  exact ⟨Or.inl C.1, hmo, hk, e2, ⟨eh, hk6⟩, fun j hj => ⟨Or.inl (C.2 j hj).1, Or.inl (C.2 j hj).2⟩⟩
/-- what looks at no cell that has changed -/
theorem qi_cch_keep {a a' tx tx' : Nat → Int32} (e : qc_e a a' tx tx') (hpn : pn ≤ 3) (hf : fn ≤ 6) (hb : bn ≤ 24) (e7 : ∀ c, 77 ≤ c → c ≤ 82 → h' c = h c) (ec : h' 59 2 = nI 0 ∨ h' 59 2 = nI 1 ∧ qk_L a tx pn fn bn h') (C : qi_cch pn fn bn h a tx) : qi_cch pn fn bn h' a' tx' := by
  obtain ⟨-, hmo, hk, e2, ⟨eh, hk6⟩, c⟩ := C
  refine ⟨?_, hmo, hk, fun p hp => by rw [e.1 _ (by omega) (by omega)]; exact e2 p hp, ⟨by rw [e.1 2 (by omega) (by omega)]; exact eh, hk6⟩, fun j hj => ⟨qi_pc_c e hf hb ⟨by rw [e7 77 (by omega) (by omega)], by rw [e7 78 (by omega) (by omega)]⟩ (fun i _ _ => by rw [e7 79 (by omega) (by omega)]) (c j hj).1, qi_kc_c e hf hb ⟨by rw [e7 80 (by omega) (by omega)], by rw [e7 81 (by omega) (by omega)], by rw [e7 82 (by omega) (by omega)]⟩ (c j hj).2⟩⟩
  rcases ec with ec | ⟨ec, cL⟩
  · exact Or.inl ec
  · exact Or.inr ⟨ec, qc_L e hf hb cL⟩
end
