/-! THE HEART: the reader: an operand -/
theorem qg_al : ∀ T, T < 38 → zR_isAmong (nI T) (nI 2094080) = qs_b (qt_nq T) ∧ (∀ s, s < 3 → zR_isAmong (nI T) (zR_namesOf (nI (s + 3))) = qs_b (qt_nq T && (decide (qt_nm T ≤ 3) || (decide (qt_nm T = 4 + 2 * s) || decide (qt_nm T = 5 + 2 * s))))) := by decide +kernel
theorem qg_nmc : ∀ T, T < 38 → qt_nq T = true → 10000 + T = qi_cd 1 (qt_nm T) ∧ qt_nm T ≤ 9 ∧ T ≠ 31 ∧ T ≠ 28 ∧ T ≠ 2 ∧ T ≠ 35 := by decide +kernel
theorem qg_bar : ∀ v, v < 10 → ∀ s, s < 3 → (if nI 3 < nI v then (if (nI v / nI 2) - nI 2 = nI s then nI 0 else nI 1) else nI 0) = qs_b (!(decide (v ≤ 3) || (decide (v = 4 + 2 * s) || decide (v = 5 + 2 * s)))) := by decide +kernel
def qg_nm (s : Nat) (q : Nat × Nat) : Prop := qi_okc q ∧ (q.1 = 1 → q.2 ≤ 3 ∨ q.2 = 4 + 2 * s ∨ q.2 = 5 + 2 * s)
section
variable {tl : Nat} {b : Nat → Nat} {x s : Nat} {h : Nat → Nat → Int32} {u : zHM} {sp nx T : Nat} {ds : List (Nat × Nat)} {ws : List Nat} {op br : Nat} {cm aa : Bool}
/-- a bracket or a minus -/
theorem qg_cO (hx : x ≤ 41) (S : qt_S tl b h u sp nx T) (C : qg_C x h ds ws op br false cm aa) (hT : T = 31 ∨ T = 28) (ho : op < 8) (hw : ws.length < 64) (hb : br ≤ 100) : ∃ h1, zR_takeOperand x (nI (s + 3)) h = some h1 ∧ qg_C x h1 ds ((if T = 31 then 31 else 38) :: ws) (op + 1) (if T = 31 then br + 1 else br) false cm false ∧ qg_fh x h h1 := by
  obtain ⟨⟨c1, c2⟩, ⟨c3, c4⟩, c5, c6, c7, c8, c9, c10⟩ := id C
  have e3 := S.2.2.2.1.1
  rcases hT with hT | hT
  · subst hT
    rw [if_pos rfl, if_pos rfl]
    obtain ⟨F1, F2⟩ := qg_field (g := upd (upd (h 55) 5 (nI (op + 1))) 6 (nI (br + 1))) (ws' := ws) (op' := op + 1) (br' := br + 1) (bo' := false) (cm' := cm) (aa' := aa) hx C (by rw [pk_un (by omega), pk_un (by omega)]; exact c10) (by rw [pk_un (by omega), pk_un (by omega)]; exact c3) c4 (by rw [pk_un (by omega), pk_us]) (by rw [pk_us]) (by rw [pk_un (by omega), pk_un (by omega)]; exact c7) (by rw [pk_un (by omega), pk_un (by omega)]; exact c8) (by rw [pk_un (by omega), pk_un (by omega)]; exact c9) (fun j hj => by rw [pk_un (by omega), pk_un (by omega)])
    obtain ⟨h2, y1, y2, y3⟩ := qg_pushC hx F1 hw 31
    obtain ⟨⟨d1, d2⟩, ⟨d3, d4⟩, d5, d6, d7, d8, d9, d10⟩ := id y2
    obtain ⟨G1, G2⟩ := qg_field (g := upd (h2 55) 9 (nI 0)) (ws' := 31 :: ws) (op' := op + 1) (br' := br + 1) (bo' := false) (cm' := cm) (aa' := false) hx y2 (by rw [pk_un (by omega)]; exact d10) (by rw [pk_un (by omega)]; exact d3) d4 (by rw [pk_un (by omega)]; exact d5) (by rw [pk_un (by omega)]; exact d6) (by rw [pk_un (by omega)]; exact d7) (by rw [pk_un (by omega)]; exact d8) (by rw [pk_us]; rfl) (fun j hj => by rw [pk_un (by omega)])
    refine ⟨_, ?_, G1, (F2.tr y3).tr G2⟩
    simp (disch := omega) only [↓reduceIte, ↓qa_b, zR_takeOperand, zR_takeOperand_J32, zR_takeOperand_J45, zR_takeOperand_J153, zR_openOne, zR_openOne_J41, e3, qa_lit, qa_eqF, c5, c6, qa_ltT, nI_add, va_up_self, qa_up2, pk_un, y1, Option.bind_some]
  · subst hT
    rw [if_neg (by decide), if_neg (by decide)]
    obtain ⟨F1, F2⟩ := qg_field (g := upd (h 55) 5 (nI (op + 1))) (ws' := ws) (op' := op + 1) (br' := br) (bo' := false) (cm' := cm) (aa' := aa) hx C (by rw [pk_un (by omega)]; exact c10) (by rw [pk_un (by omega)]; exact c3) c4 (by rw [pk_us]) (by rw [pk_un (by omega)]; exact c6) (by rw [pk_un (by omega)]; exact c7) (by rw [pk_un (by omega)]; exact c8) (by rw [pk_un (by omega)]; exact c9) (fun j hj => by rw [pk_un (by omega)])
    obtain ⟨h2, y1, y2, y3⟩ := qg_pushC hx F1 hw 38
    obtain ⟨⟨d1, d2⟩, ⟨d3, d4⟩, d5, d6, d7, d8, d9, d10⟩ := id y2
    obtain ⟨G1, G2⟩ := qg_field (g := upd (h2 55) 9 (nI 0)) (ws' := 38 :: ws) (op' := op + 1) (br' := br) (bo' := false) (cm' := cm) (aa' := false) hx y2 (by rw [pk_un (by omega)]; exact d10) (by rw [pk_un (by omega)]; exact d3) d4 (by rw [pk_un (by omega)]; exact d5) (by rw [pk_un (by omega)]; exact d6) (by rw [pk_un (by omega)]; exact d7) (by rw [pk_un (by omega)]; exact d8) (by rw [pk_us]; rfl) (fun j hj => by rw [pk_un (by omega)])
    refine ⟨_, ?_, G1, (F2.tr y3).tr G2⟩
    simp (disch := omega) only [↓reduceIte, ↓qa_b, zR_takeOperand, zR_takeOperand_J32, zR_takeOperand_J45, zR_takeOperand_J153, zR_openOne, zR_openOne_J41, e3, qa_lit, qa_eqF, c5, qa_ltT, nI_add, y1, Option.bind_some]
/-- a number or a name -/
theorem qg_cV (hx : x ≤ 41) (S : qt_S tl b h u sp nx T) (C : qg_C x h ds ws op br false cm aa) (hd : ds.length < 300) (hs : s < 3) {q : Nat × Nat} (hq : (T = 35 ∧ q.1 = 0 ∧ q.2 ≤ 9999 ∧ h 56 5 = nI q.2) ∨ (qt_nq T = true ∧ q = (1, qt_nm T) ∧ (qt_nm T ≤ 3 ∨ qt_nm T = 4 + 2 * s ∨ qt_nm T = 5 + 2 * s))) : ∃ h1, zR_takeOperand x (nI (s + 3)) h = some h1 ∧ qg_C x h1 (q :: ds) ws op br true cm false ∧ qg_fh x h h1 := by
  obtain ⟨h2, y1, y2, y3⟩ := qg_addC hx C hd q
  obtain ⟨⟨d1, d2⟩, ⟨d3, d4⟩, d5, d6, d7, d8, d9, d10⟩ := id y2
  obtain ⟨G1, G2⟩ := qg_field (g := upd (upd (h2 55) 7 (nI 1)) 9 (nI 0)) (ws' := ws) (op' := op) (br' := br) (bo' := true) (cm' := cm) (aa' := false) hx y2 (by rw [pk_un (by omega), pk_un (by omega)]; exact d10) (by rw [pk_un (by omega), pk_un (by omega)]; exact d3) d4 (by rw [pk_un (by omega), pk_un (by omega)]; exact d5) (by rw [pk_un (by omega), pk_un (by omega)]; exact d6) (by rw [pk_un (by omega), pk_us]; rfl) (by rw [pk_un (by omega), pk_un (by omega)]; exact d8) (by rw [pk_us]; rfl) (fun j hj => by rw [pk_un (by omega), pk_un (by omega)])
  refine ⟨_, ?_, G1, y3.tr G2⟩
  have e3 := S.2.2.2.1.1
  have t37 := S.2.2.2.1.2
  rcases hq with ⟨q1, q2, q3, q4⟩ | ⟨q1, q2, q3⟩
  · subst q1
    have ec : qi_cd q.1 q.2 = q.2 := by unfold qi_cd; rw [if_pos q2]
    rw [ec] at y1
    simp (disch := omega) only [↓reduceIte, ↓qa_b, zR_takeOperand, zR_takeOperand_J51, zR_takeOperand_J78, zR_takeOperand_J153, e3, qa_lit, qa_eqF, q4, qa_ltF, y1, Option.bind_some, va_up_self, qa_up2]
  · obtain ⟨n1, n2, n3, n4, n5, n6⟩ := qg_nmc T (by omega) q1
    obtain ⟨a1, a2⟩ := qg_al T (by omega)
    have a3 := a2 s hs
    rw [q1] at a1 a3
    rw [show (decide (qt_nm T ≤ 3) || (decide (qt_nm T = 4 + 2 * s) || decide (qt_nm T = 5 + 2 * s))) = true by simp; exact q3] at a3
    rw [q2] at y1
    rw [show qi_cd (1, qt_nm T).1 (1, qt_nm T).2 = 10000 + T from n1.symm] at y1
    simp (disch := omega) only [↓reduceIte, ↓qa_b, zR_takeOperand, zR_takeOperand_J51, zR_takeOperand_J78, zR_takeOperand_J153, e3, qa_lit, qa_eqF, a1, a3, qs_b0, Bool.true_eq_false, Bool.and_true, nI_add, y1, Option.bind_some, va_up_self, qa_up2]
/-- a fault -/
theorem qg_cF (S : qt_S tl b h u sp nx T) (C : qg_C x h ds ws op br false cm aa) (hs : s < 3) (hb : br ≤ 100) (hn : aa = true → T ≠ 2) {f : Nat} (hf : (f = 3 ∧ (T = 31 ∨ T = 28) ∧ 8 ≤ op ∧ op ≤ 8) ∨ (f = 2 ∧ T = 35 ∧ ∃ r, 9999 < r ∧ r ≤ 10000 ∧ h 56 5 = nI r) ∨ (f = 5 ∧ qt_nq T = true ∧ ¬ (qt_nm T ≤ 3 ∨ qt_nm T = 4 + 2 * s ∨ qt_nm T = 5 + 2 * s)) ∨ (f = 1 ∧ T ≠ 31 ∧ T ≠ 28 ∧ T ≠ 35 ∧ qt_nq T = false)) : ∃ g, zR_takeOperand x (nI (s + 3)) h = some (va_up h 55 g) ∧ g 1 = nI f ∧ g 2 = nI sp ∧ g 7 = nI 0 := by
  obtain ⟨⟨c1, c2⟩, ⟨c3, c4⟩, c5, c6, c7, c8, c9, c10⟩ := id C
  have e3 := S.2.2.2.1.1
  have e4 := S.2.2.1.1
  have t37 := S.2.2.2.1.2
  have z7 : h 55 7 = nI 0 := c7
  refine ⟨upd (upd (upd (h 55) 1 (nI f)) 2 (nI sp)) 9 (if T = 2 then nI 1 else nI 0), ?_, by rw [pk_un (by omega), pk_un (by omega), pk_us], by rw [pk_un (by omega), pk_us], by rw [pk_un (by omega), pk_un (by omega), pk_un (by omega)]; exact z7⟩
  rcases hf with ⟨rfl, hT, ho, ho'⟩ | ⟨rfl, hT, r, r1, r2, r3⟩ | ⟨rfl, hT, hz⟩ | ⟨rfl, h1, h2, h3, hT⟩
  · have : op = 8 := by omega
    subst this
    rcases hT with hT | hT
    · subst hT
      simp (disch := omega) only [↓reduceIte, ↓qa_b, zR_takeOperand, zR_takeOperand_J32, zR_takeOperand_J45, zR_takeOperand_J153, zR_openOne, zR_refuse, e3, e4, qa_lit, qa_eqF, c5, qa_ltF, va_up_self, qa_up2, qa_une, Option.bind_some, Nat.reduceEqDiff]
    · subst hT
      simp (disch := omega) only [↓reduceIte, ↓qa_b, zR_takeOperand, zR_takeOperand_J32, zR_takeOperand_J45, zR_takeOperand_J153, zR_openOne, zR_refuse, e3, e4, qa_lit, qa_eqF, c5, qa_ltF, va_up_self, qa_up2, qa_une, Option.bind_some, Nat.reduceEqDiff]
  · subst hT
    simp (disch := omega) only [↓reduceIte, ↓qa_b, zR_takeOperand, zR_takeOperand_J51, zR_takeOperand_J153, zR_refuse, e3, e4, r3, qa_lit, qa_eqF, qa_ltT, va_up_self, qa_up2, qa_une, Option.bind_some, Nat.reduceEqDiff]
  · obtain ⟨n1, n2, n3, n4, n5, n6⟩ := qg_nmc T (by omega) hT
    obtain ⟨a1, a2⟩ := qg_al T (by omega)
    have a3 := a2 s hs
    rw [hT] at a1 a3
    rw [show (decide (qt_nm T ≤ 3) || (decide (qt_nm T = 4 + 2 * s) || decide (qt_nm T = 5 + 2 * s))) = false by simp; omega] at a3
    rw [if_neg n5]
    simp (disch := omega) only [↓reduceIte, ↓qa_b, zR_takeOperand, zR_takeOperand_J51, zR_takeOperand_J78, zR_takeOperand_J153, zR_refuse, e3, e4, qa_lit, qa_eqF, a1, a3, qs_b0, Bool.true_eq_false, Bool.and_false, va_up_self, qa_up2, qa_une, Option.bind_some]
  · obtain ⟨a1, a2⟩ := qg_al T (by omega)
    rw [hT] at a1
    by_cases t2 : T = 2
    · have aF : aa = false := by
        cases aa
        · rfl
        · exact absurd t2 (hn rfl)
      rw [aF] at c9
      have c9' : h 55 9 = nI 0 := c9
      subst t2
      rw [if_pos rfl]
      simp (disch := omega) only [↓reduceIte, ↓qa_b, zR_takeOperand, zR_takeOperand_J51, zR_takeOperand_J78, zR_takeOperand_J153, zR_refuse, e3, e4, c9', qa_lit, qa_eqF, a1, qs_b0, va_up_self, qa_up2, qa_une, Option.bind_some]
    · rw [if_neg t2]
      simp (disch := omega) only [↓reduceIte, ↓qa_b, zR_takeOperand, zR_takeOperand_J51, zR_takeOperand_J78, zR_takeOperand_J153, zR_refuse, e3, e4, qa_lit, qa_eqF, a1, qs_b0, va_up_self, qa_up2, qa_une, Option.bind_some]
end
