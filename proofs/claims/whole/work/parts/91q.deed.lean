/-! THE HEART: the reader: deeds, both -/
/-- what a deed leaves as it was -/
def qg_DH (x : Nat) (h h' : Nat → Nat → Int32) : Prop := (∀ c, c ≠ 55 → c ≠ 56 → c < x ∨ x + 6 < c → h' c = h c) ∧ h' (x + 4) = h (x + 4) ∧ h' (x + 5) = h (x + 5) ∧ h' (x + 6) = h (x + 6) ∧ (∀ j, j ≠ 0 → h' x j = h x j) ∧ (∀ j, h' 55 j = h 55 j)
section
variable {x : Nat}
theorem qg_addCl (hx : x ≤ 41) {h : Nat → Nat → Int32} {c : Nat} (hc : c < 50) (e0 : h x 0 = nI c) (v a1 a2 : Int32) : ∃ h', zX_addClause x v a1 a2 h = some h' ∧ h' x 0 = nI (c + 1) ∧ h' (x + 1) = upd (h (x + 1)) c v ∧ h' (x + 2) = upd (h (x + 2)) c a1 ∧ h' (x + 3) = upd (h (x + 3)) c a2 ∧ (∀ c, c ≠ x → c ≠ x + 1 → c ≠ x + 2 → c ≠ x + 3 → h' c = h c) ∧ (∀ j, j ≠ 0 → h' x j = h x j) := by
  refine ⟨va_up (va_up (va_up (va_up h (x + 1) (upd (h (x + 1)) c v)) (x + 2) (upd (h (x + 2)) c a1)) (x + 3) (upd (h (x + 3)) c a2)) x (upd (h x) 0 (nI (c + 1))), ?_, ?_, ?_, ?_, ?_, fun c p1 p2 p3 p4 => ?_, fun j hj => ?_⟩
  · simp (disch := omega) only [↓reduceIte, ↓qa_b, zX_addClause, e0, qa_lit, qa_ltT, qa_ix, qa_cl, qa_une, nI_add]
  · rw [va_up_self, pk_us]
  · rw [qa_une _ _ (by omega), qa_une _ _ (by omega), qa_une _ _ (by omega), va_up_self]
  · rw [qa_une _ _ (by omega), qa_une _ _ (by omega), va_up_self]
  · rw [qa_une _ _ (by omega), va_up_self]
  · rw [qa_une _ _ p1, qa_une _ _ p4, qa_une _ _ p3, qa_une _ _ p2]
  · rw [va_up_self, pk_un hj]
end
section
variable {tl : Nat} {b : Nat → Nat} {x m : Nat} {h : Nat → Nat → Int32} {u : zHM} {sp nx T : Nat}
/-- a number that is due -/
theorem qg_num (S : qt_S tl b h u sp nx T) (e1 : h 55 1 = nI 0) {most idx : Nat} (hm : most ≤ 7) (hi : idx < 3160) :
    (∃ f y, 1 ≤ f ∧ f ≤ 6 ∧ zR_takeNumber (nI most) h = some (y, va_up h 55 (upd (upd (h 55) 1 (nI f)) 2 (nI sp))) ∧ zM_figure0 (nI idx) (nI most) u = some (nI f, u)) ∨
    (∃ y h1 u1 sp' nx' T', y ≤ most ∧ zR_takeNumber (nI most) h = some (nI y, h1) ∧ zM_figure0 (nI idx) (nI most) u = some (nI 0, u1) ∧ qt_S tl b h1 u1 sp' nx' T' ∧ sp < sp' ∧ (∀ c, c ≠ 56 → h1 c = h c) ∧ (∀ c, c ≠ 83 → c ≠ 86 → u1.1 c = u.1 c) ∧ u1.1 86 = upd (u.1 86) idx (nI y) ∧ (∀ j, j ≠ 8 → j ≠ 9 → j ≠ 10 → j ≠ 11 → u1.1 83 j = u.1 83 j)) := by
  have R := S.2.2.2.2.1
  have e3 := S.2.2.2.1.1
  have e4 := S.2.2.1.1
  have t37 := S.2.2.2.1.2
  have i1 := qt_is R (j := 35) (by omega) (by omega) (k := 1) rfl
  by_cases t : T = 35
  · obtain ⟨rn, r1, r2, r3⟩ := S.2.2.2.2.2.1 t
    have k1 : u.1 83 10 = nI 1 := by rw [i1]; exact t
    rw [t] at e3
    by_cases q : most < rn
    · left
      refine ⟨2, nI (min 10000 rn), by omega, by omega, ?_, ?_⟩
      · simp (disch := omega) only [↓reduceIte, ↓qa_b, zR_takeNumber, zR_refuse, r1, e1, e3, e4, qa_lit, qa_ltT, qa_une, va_up_self, qa_up2]
      · simp (disch := omega) only [↓reduceIte, zM_figure0, k1, qa_lit, r2, qa_ltT]
    · right
      have spnx := S.2.2.2.2.2.2.2.2 (by omega)
      have S1 : qt_S tl b h ((va_up u.1 86 (upd (u.1 86) idx (nI rn)), u.2) : zHM) sp nx T := qt_S_f ⟨rfl, rfl⟩ (by simp (disch := omega) only [↓reduceIte, ↓qa_b, qa_b, qa_lit, qa_neg1, qa_qN, nI_add, pk_mul, qa_ix, qa_cl, qa_ltT, qa_ltF, qa_eqT, qa_eqF, qa_nN, qa_Nn, qa_ltN, qa_Nlt, qa_NN, qa_ltNN, qa_sub, qa_dec, qa_dec0, qa_sub0, qa_incN, qa_31, qa_shr, qa_shl, qa_and1, va_up_self, qa_une, pk_us, pk_un, qa_up2, qa_upd2, Option.bind_some, if_true, if_false, and_true, true_and, and_self, qa_f1, qa_f2]) (fun j hj => by simp (disch := omega) only [↓reduceIte, ↓qa_b, qa_b, qa_lit, qa_neg1, qa_qN, nI_add, pk_mul, qa_ix, qa_cl, qa_ltT, qa_ltF, qa_eqT, qa_eqF, qa_nN, qa_Nn, qa_ltN, qa_Nlt, qa_NN, qa_ltNN, qa_sub, qa_dec, qa_dec0, qa_sub0, qa_incN, qa_31, qa_shr, qa_shl, qa_and1, va_up_self, qa_une, pk_us, pk_un, qa_up2, qa_upd2, Option.bind_some, if_true, if_false, and_true, true_and, and_self, qa_f1, qa_f2]) rfl S
      obtain ⟨h1, u1, sp', nx', T', d1, d2, d3, d4, d5⟩ := qt_go S1
      refine ⟨rn, h1, u1, sp', nx', T', by omega, ?_, ?_, d3, by omega, d5.1, fun c c1 c2 => by rw [d5.2.1 c c1]; simp (disch := omega) only [↓reduceIte, ↓qa_b, qa_b, qa_lit, qa_neg1, qa_qN, nI_add, pk_mul, qa_ix, qa_cl, qa_ltT, qa_ltF, qa_eqT, qa_eqF, qa_nN, qa_Nn, qa_ltN, qa_Nlt, qa_NN, qa_ltNN, qa_sub, qa_dec, qa_dec0, qa_sub0, qa_incN, qa_31, qa_shr, qa_shl, qa_and1, va_up_self, qa_une, pk_us, pk_un, qa_up2, qa_upd2, Option.bind_some, if_true, if_false, and_true, true_and, and_self, qa_f1, qa_f2], by rw [d5.2.1 86 (by omega)]; simp (disch := omega) only [↓reduceIte, ↓qa_b, qa_b, qa_lit, qa_neg1, qa_qN, nI_add, pk_mul, qa_ix, qa_cl, qa_ltT, qa_ltF, qa_eqT, qa_eqF, qa_nN, qa_Nn, qa_ltN, qa_Nlt, qa_NN, qa_ltNN, qa_sub, qa_dec, qa_dec0, qa_sub0, qa_incN, qa_31, qa_shr, qa_shl, qa_and1, va_up_self, qa_une, pk_us, pk_un, qa_up2, qa_upd2, Option.bind_some, if_true, if_false, and_true, true_and, and_self, qa_f1, qa_f2], fun j j1 j2 j3 j4 => by rw [d5.2.2 j j1 j2 j3 j4]; simp (disch := omega) only [↓reduceIte, ↓qa_b, qa_b, qa_lit, qa_neg1, qa_qN, nI_add, pk_mul, qa_ix, qa_cl, qa_ltT, qa_ltF, qa_eqT, qa_eqF, qa_nN, qa_Nn, qa_ltN, qa_Nlt, qa_NN, qa_ltNN, qa_sub, qa_dec, qa_dec0, qa_sub0, qa_incN, qa_31, qa_shr, qa_shl, qa_and1, va_up_self, qa_une, pk_us, pk_un, qa_up2, qa_upd2, Option.bind_some, if_true, if_false, and_true, true_and, and_self, qa_f1, qa_f2]⟩
      · rw [show min 10000 rn = rn by omega] at r1
        simp (disch := omega) only [↓reduceIte, ↓qa_b, zR_takeNumber, r1, e1, e3, qa_lit, qa_ltF, d1, Option.bind_some]
      · simp (disch := omega) only [↓reduceIte, ↓qa_b, zM_figure0, k1, qa_lit, r2, qa_ltF, qa_ix, qa_cl, d2, Option.bind_some]
  · left
    have n1 : ¬ (u.1 83 10 = nI 1) := by rw [i1]; exact t
    refine ⟨1, h 56 5, by omega, by omega, ?_, ?_⟩
    · simp (disch := omega) only [↓reduceIte, ↓qa_b, zR_takeNumber, zR_refuse, e1, e3, e4, qa_lit, qa_eqF, qa_une, va_up_self, qa_up2]
    · simp (disch := omega) only [↓reduceIte, zM_figure0, n1, qa_lit]
/-- a token that is due: the class -/
theorem qg_tok (S : qt_S tl b h u sp nx T) (e1 : h 55 1 = nI 0) {D : Nat} (hD : D < 36) (hT : T ≠ D) : zR_takeToken (nI D) h = some (va_up h 55 (upd (upd (h 55) 1 (nI 1)) 2 (nI sp))) := by
  have e3 := S.2.2.2.1.1
  have e4 := S.2.2.1.1
  have t37 := S.2.2.2.1.2
  simp (disch := omega) only [↓reduceIte, ↓qa_b, zR_takeToken, zR_refuse, e1, e3, e4, qa_lit, qa_eqF, qa_une, va_up_self, qa_up2]
/-- behind a fault the class only goes to its end -/
theorem qg_flt (hx : x ≤ 41) {c f : Nat} (hf : 1 ≤ f) (hf6 : f ≤ 6) (hc : c < 50) (e0 : h x 0 = nI c) (e1 : h 55 1 = nI f) : (∀ D, zR_takeToken D h = some h) ∧ (∀ D, zR_takeNumber D h = some (nI 0, h)) ∧ ∀ v2 v3 v4, ∃ h', zR_readDeed_J81 x v2 v3 v4 h = some h' ∧ h' 55 = h 55 ∧ (∀ c, c < x ∨ x + 6 < c → h' c = h c) := by
  have t1 : ∀ D, zR_takeToken D h = some h := fun D => by
    simp (disch := omega) only [↓reduceIte, zR_takeToken, e1, qa_lit, qa_eqF]
  refine ⟨t1, fun D => ?_, fun v2 v3 v4 => ?_⟩
  · simp (disch := omega) only [↓reduceIte, ↓qa_b, zR_takeNumber, e1, qa_lit, qa_eqF]
  · obtain ⟨h', y1, y2, y3, y4, y5, y6, y7⟩ := qg_addCl hx hc e0 v2 v3 v4
    refine ⟨h', ?_, y6 55 (by omega) (by omega) (by omega) (by omega), fun c hc => y6 c (by omega) (by omega) (by omega) (by omega)⟩
    simp only [zR_readDeed_J81, t1, Option.bind_some, y1]
end
