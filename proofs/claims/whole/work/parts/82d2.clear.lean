/-! THE HEART: clear -/
section
variable {k P pn fn tn bn pn' fn' tn' bn' tl : Nat} {h : Nat → Nat → Int32} {w : zHM}
def qc_h (h1 : Nat → Nat → Int32) : Nat → Nat → Int32 := va_up (va_up (va_up (va_up (va_up h1 1 (upd (h1 1) 13 (nI 0))) 6 (zfill 6 (nI 0) (h1 6))) 7 (zfill 6 qN (h1 7))) 8 (zfill 144 qN (h1 8))) 9 (zfill 144 (nI 0) (h1 9))
theorem qc_ev {h1 : Nat → Nat → Int32} (ec : zH_changed h = some h1) (s13 : h1 1 13 = nI bn) : zH_clear h = some (nI bn, qc_h h1) := by
  unfold zH_clear zG_emptyPlay qc_h
  rw [ec]
  simp only [qa_b, qa_lit, qa_qN, qa_neg1, Option.bind_some]
  rw [s13]
  simp (disch := omega) only [qa_une]
theorem qc_fr {h1 : Nat → Nat → Int32} {c : Nat} (hc : 10 ≤ c) : qc_h h1 c = h1 c := by
  unfold qc_h
  rw [qa_une _ _ (by omega), qa_une _ _ (by omega), qa_une _ _ (by omega), qa_une _ _ (by omega), qa_une _ _ (by omega)]
theorem qc_a {a a' : Nat → Int32} (HA : qi_a (100 * k) P pn fn tn bn a) (q1 : ∀ f, 0 ≤ f → f < 6 → a' (34 + f) = nI 0 ∧ a' (40 + f) = qN) (n6 : a' 6 = nI 0) (old : ∀ j, j ≠ 6 → (j < 34 ∨ 46 ≤ j) → a' j = a j) : qi_a (100 * (k + 1)) P pn fn tn 0 a' := by
  obtain ⟨⟨a0, a1, a4, a6, lpn, lfn, ltn, lbn⟩, A2, A3, A5, Ap, Af, At⟩ := HA
  refine ⟨⟨?_, ?_, ?_, n6, by omega, by omega, by omega, by omega⟩, ?_, ?_, ?_, fun p hp => ?_, fun f hf => ?_, fun t f ht hf => absurd ht (Nat.not_lt_zero t)⟩
  · rw [old 0 (by omega) (by omega)]; exact a0
  · rw [old 1 (by omega) (by omega)]; exact a1
  · rw [old 4 (by omega) (by omega)]; exact a4
  · rw [old 2 (by omega) (by omega)]; exact A2
  · rw [old 3 (by omega) (by omega)]; exact A3
  · rw [old 5 (by omega) (by omega)]; exact A5
  · rw [old (10 + 2 * p) (by omega) (by omega), old (10 + 2 * p + 1) (by omega) (by omega)]; exact Ap p hp
  · rw [old (20 + 2 * f) (by omega) (by omega), old (20 + 2 * f + 1) (by omega) (by omega), (q1 f (by omega) (by omega)).1, (q1 f (by omega) (by omega)).2]
    obtain ⟨b1, b2, -, -⟩ := Af f hf
    exact ⟨b1, b2, ⟨0, by omega, rfl⟩, Or.inl rfl⟩
theorem qc_s {a a' : Nat → Int32} {h1 : Nat → Nat → Int32} (HA : qi_a (100 * k) P pn fn tn bn a) (HS : qi_stg 0 P pn fn tn bn h1 a) (q1 : ∀ f, 0 ≤ f → f < 6 → a' (34 + f) = nI 0 ∧ a' (40 + f) = qN) (old : ∀ j, j ≠ 6 → (j < 34 ∨ 46 ≤ j) → a' j = a j) : qi_stg 0 P pn fn tn 0 (qc_h h1) a' := by
  obtain ⟨⟨a0, a1, a4, a6, lpn, lfn, ltn, lbn⟩, -⟩ := HA
  obtain ⟨⟨s0, s1, s4, s9, s10, s11, s12, s13⟩, Sp, Sf, Sg, St, Su, Sv⟩ := qi_stg0 HS
  have c1 : qc_h h1 1 = upd (h1 1) 13 (nI 0) := by
    unfold qc_h
    rw [qa_une _ _ (by omega), qa_une _ _ (by omega), qa_une _ _ (by omega), qa_une _ _ (by omega), va_up_self]
  have c2 : ∀ c, 2 ≤ c → c ≤ 5 → qc_h h1 c = h1 c := fun c h2 h5 => by
    unfold qc_h
    rw [qa_une _ _ (by omega), qa_une _ _ (by omega), qa_une _ _ (by omega), qa_une _ _ (by omega), qa_une _ _ (by omega)]
  have c6 : qc_h h1 6 = zfill 6 (nI 0) (h1 6) := by
    unfold qc_h
    rw [qa_une _ _ (by omega), qa_une _ _ (by omega), qa_une _ _ (by omega), va_up_self]
  have c7 : qc_h h1 7 = zfill 6 qN (h1 7) := by
    unfold qc_h
    rw [qa_une _ _ (by omega), qa_une _ _ (by omega), va_up_self]
  have c9 : qc_h h1 9 = zfill 144 (nI 0) (h1 9) := by
    unfold qc_h
    rw [va_up_self]
  show (qc_h h1 1 0 = nI P ∧ qc_h h1 1 1 = nI pn ∧ qc_h h1 1 4 = nI fn ∧ qc_h h1 1 9 = a' 2 ∧ qc_h h1 1 10 = a' 3 ∧ qc_h h1 1 11 = nI tn ∧ qc_h h1 1 12 = a' 5 ∧ qc_h h1 1 13 = nI 0) ∧
    (∀ p, p < pn → qc_h h1 2 p = a' (10 + 2 * p) ∧ qc_h h1 3 p = a' (10 + 2 * p + 1)) ∧
    (∀ f, f < fn → qc_h h1 4 f = a' (20 + 2 * f) ∧ qc_h h1 5 f = a' (20 + 2 * f + 1) ∧ qc_h h1 6 f = a' (34 + f) ∧ qc_h h1 7 f = a' (40 + f)) ∧
    (∀ f, fn ≤ f → f < 6 → qc_h h1 6 f = nI 0 ∧ qc_h h1 7 f = qN) ∧
    (∀ t f, t < 0 → f < fn → qc_h h1 8 (t * 6 + f) = a' (50 + 6 * t + f) ∧ qc_h h1 9 (t * 6 + f) = a' (200 + 6 * t + f)) ∧
    (∀ t f, t < 0 → fn ≤ f → f < 6 → qc_h h1 8 (t * 6 + f) = qN) ∧
    (∀ t f, t < 24 → f < 6 → (0 ≤ t ∨ fn ≤ f) → qc_h h1 9 (t * 6 + f) = nI 0)
  rw [c1, c2 2 (by omega) (by omega), c2 3 (by omega) (by omega), c2 4 (by omega) (by omega), c2 5 (by omega) (by omega), c6, c7, c9, old 2 (by omega) (by omega), old 3 (by omega) (by omega), old 5 (by omega) (by omega)]
  refine ⟨⟨?_, ?_, ?_, ?_, ?_, ?_, ?_, ?_⟩, fun p hp => ?_, fun f hf => ?_, fun f hf hf' => ?_, fun t f ht hf => absurd ht (Nat.not_lt_zero t), fun t f ht hf hf' => absurd ht (Nat.not_lt_zero t), fun t f ht hf hf' => ?_⟩
  · rw [pk_un (by omega)]; exact s0
  · rw [pk_un (by omega)]; exact s1
  · rw [pk_un (by omega)]; exact s4
  · rw [pk_un (by omega)]; exact s9
  · rw [pk_un (by omega)]; exact s10
  · rw [pk_un (by omega)]; exact s11
  · rw [pk_un (by omega)]; exact s12
  · rw [pk_us]
  · rw [old (10 + 2 * p) (by omega) (by omega), old (10 + 2 * p + 1) (by omega) (by omega)]
    exact Sp p hp
  · rw [old (20 + 2 * f) (by omega) (by omega), old (20 + 2 * f + 1) (by omega) (by omega), (q1 f (by omega) (by omega)).1, (q1 f (by omega) (by omega)).2, qa_fill (by omega), qa_fill (by omega)]
    exact ⟨(Sf f hf).1, (Sf f hf).2.1, rfl, rfl⟩
  · rw [qa_fill hf', qa_fill hf']
    exact ⟨rfl, rfl⟩
  · exact qa_fill (by omega)
theorem qc_m {a' : Nat → Int32} (a6 : w.1 84 6 = nI bn) (e : zM_clear_L18 am_N (nI bn) (nI 0) (va_up w.1 84 (upd (w.1 84) 6 (nI 0)), w.2) = some (nI bn, (va_up w.1 84 a', w.2))) : zM_clear w = some (nI bn, (va_up w.1 84 a', w.2)) := by
  unfold zM_clear
  rw [a6]
  simp only [qa_b, qa_lit]
  exact e
theorem qc_l (bn : Nat) (w : zHM) : ∃ a', zM_clear_L18 am_N (nI bn) (nI 0) (va_up w.1 84 (upd (w.1 84) 6 (nI 0)), w.2) = some (nI bn, (va_up w.1 84 a', w.2)) ∧ (∀ f, 0 ≤ f → f < 6 → a' (34 + f) = nI 0 ∧ a' (40 + f) = qN) ∧ a' 6 = nI 0 ∧ (∀ j, j ≠ 6 → (j < 34 ∨ 46 ≤ j) → a' j = w.1 84 j) := by
  obtain ⟨a', e, q1, q2⟩ := qm_clearL 6 am_N 0 (nI bn) (va_up w.1 84 (upd (w.1 84) 6 (nI 0)), w.2) (by omega) (by decide)
  simp only [qa_f1, qa_f2, va_up_self, qa_up2] at e q2
  refine ⟨a', e, q1, ?_, fun j j1 j2 => ?_⟩
  · rw [q2 6 (fun u _ _ => ⟨by omega, by omega⟩), pk_us]
  · rw [q2 j (fun u _ _ => ⟨by omega, by omega⟩), pk_un j1]
theorem qo_clear (H : qi_core k P pn fn tn bn pn' fn' tn' bn' tl h w) : qi_res k h w (zH_clear h) (zM_clear w) := by
  obtain ⟨h1, ec, fr, clr⟩ := qi_changed h
  have H1 := qi_core_h fr H
  obtain ⟨⟨hP3, hP8, hP, htn⟩, HA, -, HS1, -⟩ := H1
  have a6 := HA.1.2.2.2.1
  have s13 := (qi_stg0 HS1).1.2.2.2.2.2.2.2
  obtain ⟨a', e, q1, n6, old⟩ := qc_l bn w
  refine ⟨nI bn, qc_h h1, (va_up w.1 84 a', w.2), qc_ev ec s13, qc_m a6 e, Or.inr ⟨?_, P, pn, fn, tn, 0, pn', fn', tn', bn', tl, ?_⟩⟩
  · unfold qi_clr at clr ⊢
    rw [qc_fr (by omega), qc_fr (by omega), qc_fr (by omega)]
    exact clr
  · refine qi_core_s H (fun c hc hc' => by rw [qc_fr hc, fr c hc']) (by rw [qa_f1, qa_une _ _ (by omega)]) ⟨by rw [qa_f1, qa_une _ _ (by omega)], by rw [qa_f1, qa_une _ _ (by omega)], by rw [qa_f1, qa_une _ _ (by omega)]⟩ ?_ ?_
    · rw [qa_f1, va_up_self]
      exact qc_a HA q1 n6 old
    · rw [qa_f1, va_up_self]
      exact qc_s HA HS1 q1 old
end
