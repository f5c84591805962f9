/-! THE HEART: the reader: what stands between sums, in the class -/
theorem qg_sc_not {r : Nat} (hr : r ≤ 3) {v : List Nat} : ∀ (k : Nat) (ds : List (Nat × Nat)) (op : Nat), qg_sc r (List.replicate k 2 ++ v) ds op = qg_sc r v (qg_em (List.replicate k 20) ds) (op - k)
  | 0, _, _ => rfl
  | k + 1, ds, op => by
    rw [List.replicate_succ, List.replicate_succ, List.cons_append, show qg_sc r (2 :: (List.replicate k 2 ++ v)) ds op = (if r ≤ qg_rk 2 then qg_sc r (List.replicate k 2 ++ v) ((qg_u 2, 0) :: ds) (if qg_on 2 then op - 1 else op) else (2 :: (List.replicate k 2 ++ v), ds, op)) from rfl, if_pos (by rw [show qg_rk 2 = 3 from rfl]; exact hr), show qg_on 2 = true from rfl, if_pos rfl, qg_sc_not hr k, show op - 1 - k = op - (k + 1) by omega]
    rfl
/-- and, or that wait -/
def qg_b0 (a o : Bool) : List Nat := (if a then [1] else []) ++ (if o then [0] else [])
theorem qg_sc_b0 (a o : Bool) (ds : List (Nat × Nat)) (op : Nat) : qg_sc 1 (qg_b0 a o) ds op = ([], qg_em ((if a then [21] else []) ++ (if o then [22] else [])) ds, op) ∧ qg_sc 2 (qg_b0 a o) ds op = (qg_b0 false o, qg_em (if a then [21] else []) ds, op) := by
  cases a <;> cases o <;> exact ⟨rfl, rfl⟩
theorem qg_em_em : ∀ (l l' : List Nat) (ds : List (Nat × Nat)), qg_em (l ++ l') ds = qg_em l' (qg_em l ds)
  | [], _, _ => rfl
  | e :: l, l', ds => qg_em_em l l' _
theorem qg_cmpT : ∀ T, T < 27 → 21 ≤ T → qg_rk T = 4 ∧ qg_u T = T - 11 ∧ qg_on T = false ∧ qg_w T = true := by decide +kernel
/-- all of an ASK comes off -/
theorem qg_sc_ask {r T' k : Nat} {seg : List Nat} (hr : r = 1 ∨ r = 2) (hT : 21 ≤ T' ∧ T' ≤ 26) (hseg : ∀ e ∈ seg, 3 ≤ e ∧ e ≤ 6) (a o : Bool) (ds : List (Nat × Nat)) : qg_sc r (seg.map qg_t ++ (T' :: (List.replicate k 2 ++ qg_b0 a o))) ds k = (if r = 1 then [] else qg_b0 false o, qg_em (seg ++ ([T' - 11] ++ (List.replicate k 20 ++ ((if a then [21] else []) ++ (if r = 1 ∧ o = true then [22] else []))))) ds, 0) := by
  obtain ⟨q1, q2, q3, q4⟩ := qg_cmpT T' (by omega) hT.1
  rw [qg_sc_app (seg.map qg_t) _ _ (fun t' ht' => by
    obtain ⟨e', x1, x2⟩ := List.mem_map.mp ht'
    obtain ⟨y1, y2, y3, y4, y5, y6⟩ := qg_tu e' (by have := hseg e' x1; omega) (hseg e' x1).1
    rw [← x2]
    exact ⟨by omega, y3⟩), qg_map_u hseg]
  rw [show T' :: (List.replicate k 2 ++ qg_b0 a o) = [T'] ++ (List.replicate k 2 ++ qg_b0 a o) from rfl, qg_sc_app [T'] _ _ (fun t' ht' => by
    rw [List.mem_singleton] at ht'
    rw [ht']
    exact ⟨by omega, q3⟩), List.map_cons, List.map_nil, q2, qg_sc_not (by omega), Nat.sub_self, qg_em_em, qg_em_em, qg_em_em]
  obtain ⟨z1, z2⟩ := qg_sc_b0 a o (qg_em (List.replicate k 20) (qg_em [T' - 11] (qg_em seg ds))) 0
  rcases hr with hr | hr
  · subst hr
    rw [z1]
    cases a <;> cases o <;> rfl
  · subst hr
    rw [z2]
    cases a <;> cases o <;> rfl
section
variable {tl : Nat} {b : Nat → Nat} {x s : Nat} {h : Nat → Nat → Int32} {u : zHM} {sp nx T : Nat} {ds : List (Nat × Nat)} {ws : List Nat} {op br : Nat} {cm aa : Bool}
/-- not -/
theorem qg_cN (hx : x ≤ 41) (S : qt_S tl b h u sp nx T) (C : qg_C x h ds ws op 0 false false true) (hT : T = 2) (ho : op < 8) (hw : ws.length < 64) : ∃ h1, zR_takeOperand x (nI (s + 3)) h = some h1 ∧ qg_C x h1 ds (2 :: ws) (op + 1) 0 false false true ∧ qg_fh x h h1 := by
  obtain ⟨⟨c1, c2⟩, ⟨c3, c4⟩, c5, c6, c7, c8, c9, c10⟩ := id C
  have c9' : h 55 9 = nI 1 := c9
  have e3 := S.2.2.2.1.1
  subst hT
  obtain ⟨F1, F2⟩ := qg_field (g := upd (h 55) 5 (nI (op + 1))) (ws' := ws) (op' := op + 1) (br' := 0) (bo' := false) (cm' := false) (aa' := true) hx C (by rw [pk_un (by omega)]; exact c10) (by rw [pk_un (by omega)]; exact c3) c4 (by rw [pk_us]) (by rw [pk_un (by omega)]; exact c6) (by rw [pk_un (by omega)]; exact c7) (by rw [pk_un (by omega)]; exact c8) (by rw [pk_un (by omega)]; exact c9) (fun j hj => by rw [pk_un (by omega)])
  obtain ⟨h2, y1, y2, y3⟩ := qg_pushC hx F1 hw 2
  obtain ⟨⟨d1, d2⟩, ⟨d3, d4⟩, d5, d6, d7, d8, d9, d10⟩ := id y2
  obtain ⟨G1, G2⟩ := qg_field (g := upd (h2 55) 9 (nI 1)) (ws' := 2 :: ws) (op' := op + 1) (br' := 0) (bo' := false) (cm' := false) (aa' := true) hx y2 (by rw [pk_un (by omega)]; exact d10) (by rw [pk_un (by omega)]; exact d3) d4 (by rw [pk_un (by omega)]; exact d5) (by rw [pk_un (by omega)]; exact d6) (by rw [pk_un (by omega)]; exact d7) (by rw [pk_un (by omega)]; exact d8) (by rw [pk_us]; rfl) (fun j hj => by rw [pk_un (by omega)])
  refine ⟨_, ?_, G1, (F2.tr y3).tr G2⟩
  simp (disch := omega) only [↓reduceIte, ↓qa_b, zR_takeOperand, zR_takeOperand_J32, zR_takeOperand_J45, zR_takeOperand_J153, zR_openOne, zR_openOne_J41, e3, c9', qa_lit, qa_eqF, c5, qa_ltT, nI_add, y1, Option.bind_some]
theorem qg_cN3 (S : qt_S tl b h u sp nx T) (C : qg_C x h ds ws 8 0 false false true) (hT : T = 2) : ∃ g, zR_takeOperand x (nI (s + 3)) h = some (va_up h 55 g) ∧ g 1 = nI 3 ∧ g 2 = nI sp ∧ g 7 = nI 0 := by
  obtain ⟨⟨c1, c2⟩, ⟨c3, c4⟩, c5, c6, c7, c8, c9, c10⟩ := id C
  have c9' : h 55 9 = nI 1 := c9
  have z7 : h 55 7 = nI 0 := c7
  have e3 := S.2.2.2.1.1
  have e4 := S.2.2.1.1
  subst hT
  refine ⟨upd (upd (upd (h 55) 1 (nI 3)) 2 (nI sp)) 9 (nI 1), ?_, by rw [pk_un (by omega), pk_un (by omega), pk_us], by rw [pk_un (by omega), pk_us], by rw [pk_un (by omega), pk_un (by omega), pk_un (by omega)]; exact z7⟩
  simp (disch := omega) only [↓reduceIte, ↓qa_b, zR_takeOperand, zR_takeOperand_J32, zR_takeOperand_J45, zR_takeOperand_J153, zR_openOne, zR_refuse, e3, e4, c9', qa_lit, qa_eqF, c5, qa_ltF, va_up_self, qa_up2, qa_une, Option.bind_some]
/-- a comparison -/
theorem qg_cC (hx : x ≤ 41) (S : qt_S tl b h u sp nx T) {base seg : List Nat} {k : Nat} (hB : qg_B base k) (hseg : ∀ e ∈ seg, 3 ≤ e ∧ e ≤ 6) (C : qg_C x h ds (seg.map qg_t ++ base) op 0 true false aa) (hT : 21 ≤ T ∧ T ≤ 26) (hb : ∀ t ∈ base, qg_rk t < 4) (hd : ds.length + (seg.map qg_t ++ base).length ≤ 300) (hw : (seg.map qg_t ++ base).length ≤ 60) (ha : ∀ t ∈ seg.map qg_t ++ base, qg_w t = true) (hc : (seg.map qg_t ++ base).countP qg_on ≤ op) (ho : op ≤ 8) : ∃ h1, zR_takeOperator x h = some h1 ∧ qg_C x h1 (qg_em seg ds) (T :: base) op 0 false true aa ∧ qg_fh x h h1 := by
  have e3 := S.2.2.2.1.1
  have c6 := C.2.2.2.1
  have c8 : h 55 8 = nI 0 := C.2.2.2.2.2.1
  obtain ⟨q1, q2, q3, q4⟩ := qg_cmpT T (by omega) hT.1
  have scE : qg_sc 4 (seg.map qg_t ++ base) ds op = (base, qg_em seg ds, op) := by
    rw [qg_sc_app (seg.map qg_t) _ _ (fun t' ht' => by
      obtain ⟨e', x1, x2⟩ := List.mem_map.mp ht'
      obtain ⟨y1, y2, y3, y4, y5, y6⟩ := qg_tu e' (by have := hseg e' x1; omega) (hseg e' x1).1
      rw [← x2]
      exact ⟨by omega, y3⟩), qg_map_u hseg, qg_sc_no]
    exact fun t ht => hb t (List.mem_of_mem_head? ht)
  obtain ⟨h1, c1, c2, c3⟩ := qg_setC (r := 4) hx (by omega) (by omega) (seg.map qg_t ++ base) am_N h ds op (Nat.lt_of_le_of_lt hw (by decide)) hd (by omega) ha hc (by omega) C
  rw [scE] at c2
  have c1' : zR_settle x (nI 4) h = some h1 := c1
  have bl : base.length < 64 := by rw [List.length_append] at hw; omega
  obtain ⟨h2, p1, p2, p3⟩ := qg_pushC hx c2 bl T
  obtain ⟨⟨d1, d2⟩, ⟨d3, d4⟩, d5, d6, d7, d8, d9, d10⟩ := id p2
  obtain ⟨G1, G2⟩ := qg_field (g := upd (upd (h2 55) 7 (nI 0)) 8 (nI 1)) (ws' := T :: base) (op' := op) (br' := 0) (bo' := false) (cm' := true) (aa' := aa) hx p2 (by rw [pk_un (by omega), pk_un (by omega)]; exact d10) (by rw [pk_un (by omega), pk_un (by omega)]; exact d3) d4 (by rw [pk_un (by omega), pk_un (by omega)]; exact d5) (by rw [pk_un (by omega), pk_un (by omega)]; exact d6) (by rw [pk_un (by omega), pk_us]; rfl) (by rw [pk_us]; rfl) (by rw [pk_un (by omega), pk_un (by omega)]; exact d9) (fun j hj => by rw [pk_un (by omega), pk_un (by omega)])
  refine ⟨_, ?_, G1, (c3.tr p3).tr G2⟩
  have rk := (qg_rkH T (by omega)).1
  rw [q1] at rk
  have w8 : (upd (h2 55) 7 (nI 0)) 8 = nI 0 := by rw [pk_un (by omega)]; exact d8
  simp (disch := omega) only [↓reduceIte, ↓qa_b, zR_takeOperator, zR_takeOperator_J28, zR_takeOperator_J46, zR_takeOperator_J64, zR_takeOperator_J65, zR_takeOperator_J88, zR_takeOperator_J112, e3, qa_lit, qa_eqF, qa_ltF, qa_ltT, c6, c8, rk, c1', p1, Option.bind_some, va_up_self, qa_up2, w8]
/-- and, or, the end of the law -/
theorem qg_cE (hx : x ≤ 41) (S : qt_S tl b h u sp nx T) {seg : List Nat} {T' k : Nat} {a o : Bool} (hT' : 21 ≤ T' ∧ T' ≤ 26) (hseg : ∀ e ∈ seg, 3 ≤ e ∧ e ≤ 6) (C : qg_C x h ds (seg.map qg_t ++ (T' :: (List.replicate k 2 ++ qg_b0 a o))) k 0 true true aa) (hT : T = 0 ∨ T = 1 ∨ T = 34) (hd : ds.length + (seg.map qg_t ++ (T' :: (List.replicate k 2 ++ qg_b0 a o))).length ≤ 300) (hw : (seg.map qg_t ++ (T' :: (List.replicate k 2 ++ qg_b0 a o))).length ≤ 60) (ha : ∀ t ∈ seg.map qg_t ++ (T' :: (List.replicate k 2 ++ qg_b0 a o)), qg_w t = true) (hc : (seg.map qg_t ++ (T' :: (List.replicate k 2 ++ qg_b0 a o))).countP qg_on ≤ k) (ho : k ≤ 8) : ∃ h1, zR_takeOperator x h = some h1 ∧ qg_C x h1 (qg_em (seg ++ ([T' - 11] ++ (List.replicate k 20 ++ ((if a then [21] else []) ++ (if T ≠ 1 ∧ o = true then [22] else []))))) ds) (T :: (if T ≠ 1 then [] else qg_b0 false o)) 0 0 false false true ∧ qg_fh x h h1 := by
  have e3 := S.2.2.2.1.1
  have c6 := C.2.2.2.1
  have c8 : h 55 8 = nI 1 := C.2.2.2.2.2.1
  obtain ⟨r, hr⟩ : ∃ r, r = (if T = 1 then 2 else 1) := ⟨_, rfl⟩
  have r12 : r = 1 ∨ r = 2 := by rw [hr]; split <;> omega
  have e1 : (r = 1) = (T ≠ 1) := by rw [hr]; apply propext; split <;> omega
  have scE := qg_sc_ask (k := k) r12 hT' hseg a o ds
  simp only [e1] at scE
  obtain ⟨h1, c1, c2, c3⟩ := qg_setC (r := r) hx (by omega) (by omega) (seg.map qg_t ++ (T' :: (List.replicate k 2 ++ qg_b0 a o))) am_N h ds k (Nat.lt_of_le_of_lt hw (by decide)) hd (by omega) ha hc (by omega) C
  rw [scE] at c2
  have c1' : zR_settle x (nI r) h = some h1 := c1
  have bl : (if T ≠ 1 then [] else qg_b0 false o).length < 64 := by
    split
    · decide
    · cases o <;> decide
  obtain ⟨h2, p1, p2, p3⟩ := qg_pushC hx c2 bl T
  obtain ⟨⟨d1, d2⟩, ⟨d3, d4⟩, d5, d6, d7, d8, d9, d10⟩ := id p2
  obtain ⟨G1, G2⟩ := qg_field (g := upd (upd (upd (h2 55) 9 (nI 1)) 8 (nI 0)) 7 (nI 0)) (ws' := T :: (if T ≠ 1 then [] else qg_b0 false o)) (op' := 0) (br' := 0) (bo' := false) (cm' := false) (aa' := true) hx p2 (by rw [pk_un (by omega), pk_un (by omega), pk_un (by omega)]; exact d10) (by rw [pk_un (by omega), pk_un (by omega), pk_un (by omega)]; exact d3) d4 (by rw [pk_un (by omega), pk_un (by omega), pk_un (by omega)]; exact d5) (by rw [pk_un (by omega), pk_un (by omega), pk_un (by omega)]; exact d6) (by rw [pk_us]; rfl) (by rw [pk_un (by omega), pk_us]; rfl) (by rw [pk_un (by omega), pk_un (by omega), pk_us]; rfl) (fun j hj => by rw [pk_un (by omega), pk_un (by omega), pk_un (by omega)])
  refine ⟨_, ?_, G1, (c3.tr p3).tr G2⟩
  have rk := (qg_rkH T (by omega)).1
  rw [show qg_rk T = r by rw [hr]; rcases hT with q | q | q <;> rw [q] <;> rfl] at rk
  rcases hT with q | q | q
  · subst q
    simp (disch := omega) only [↓reduceIte, ↓qa_b, zR_takeOperator, zR_takeOperator_J23, zR_takeOperator_J28, zR_takeOperator_J45, zR_takeOperator_J46, zR_takeOperator_J64, zR_takeOperator_J65, zR_takeOperator_J88, zR_takeOperator_J155, zR_beginAsk, e3, qa_lit, qa_eqF, qa_ltF, qa_ltT, c6, c8, rk, c1', p1, Option.bind_some, va_up_self, qa_up2]
  · subst q
    simp (disch := omega) only [↓reduceIte, ↓qa_b, zR_takeOperator, zR_takeOperator_J23, zR_takeOperator_J28, zR_takeOperator_J45, zR_takeOperator_J46, zR_takeOperator_J64, zR_takeOperator_J65, zR_takeOperator_J88, zR_takeOperator_J155, zR_beginAsk, e3, qa_lit, qa_eqF, qa_ltF, qa_ltT, c6, c8, rk, c1', p1, Option.bind_some, va_up_self, qa_up2]
  · subst q
    simp (disch := omega) only [↓reduceIte, ↓qa_b, zR_takeOperator, zR_takeOperator_J23, zR_takeOperator_J28, zR_takeOperator_J45, zR_takeOperator_J46, zR_takeOperator_J64, zR_takeOperator_J65, zR_takeOperator_J88, zR_takeOperator_J155, zR_beginAsk, e3, qa_lit, qa_eqF, qa_ltF, qa_ltT, c6, c8, rk, c1', p1, Option.bind_some, va_up_self, qa_up2]
end
