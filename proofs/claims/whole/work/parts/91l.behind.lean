/-! THE HEART: the reader: behind a ONE, within a sum, both -/
theorem qg_o_app (a c : List Nat) : qg_o (a ++ c) = qg_o a + qg_o c := List.countP_append
theorem qg_br_app (a c : List Nat) : qg_br (a ++ c) = qg_br a + qg_br c := List.countP_append
theorem qg_bi_app (a c : List Nat) : qg_bi (a ++ c) = qg_bi a + qg_bi c := List.countP_append
theorem qg_seg0 : ∀ (seg : List Nat), (∀ e ∈ seg, 3 ≤ e ∧ e ≤ 6) → qg_o seg = 0 ∧ qg_br seg = 0 ∧ qg_bi seg = seg.length
  | [], _ => ⟨rfl, rfl, rfl⟩
  | e :: l, h => by
    have e36 := h e List.mem_cons_self
    obtain ⟨a, b, c⟩ := qg_seg0 l (fun e' he' => h e' (List.mem_cons_of_mem _ he'))
    rw [qg_o_c, qg_br_c, qg_bi_c, if_neg (by omega), if_neg (by omega), if_pos e36, a, b, c, List.length_cons]
    exact ⟨rfl, rfl, rfl⟩
section
variable {tl : Nat} {b : Nat → Nat} {x m s : Nat} {ds0 : List (Nat × Nat)} {base : List Nat} {k t : Nat} {cm : Bool} {h : Nat → Nat → Int32} {u : zHM} {sp nx T : Nat} {lw : List (Nat × Nat)} {pl : List Nat} {op : Nat} {aa : Bool}
theorem qg_goes (Z : qg_Z tl b x m s ds0 base k t cm h u sp nx T lw pl op true aa) (hB : qg_B base k) : zM_goesOn u = some (qs_b ((decide (27 ≤ T) && decide (T ≤ 30)) || (decide (T = 32) && decide (40 ∈ pl)))) := by
  obtain ⟨L1, L2, L3, L4, L5, L6, L7⟩ := qg_Z_len Z hB
  obtain ⟨S, C, M, -⟩ := id Z
  have R := S.2.2.2.2.1
  have i := fun {j : Nat} (h1 : 21 ≤ j) (h2 : j ≤ 36) {k : Nat} (hk : qt_kind j = k) => qt_is R h1 h2 hk
  have i43 := i (j := 27) (by omega) (by omega) (k := 43) rfl
  have i45 := i (j := 28) (by omega) (by omega) (k := 45) rfl
  have i42 := i (j := 29) (by omega) (by omega) (k := 42) rfl
  have i47 := i (j := 30) (by omega) (by omega) (k := 47) rfl
  have i41 := i (j := 32) (by omega) (by omega) (k := 41) rfl
  have par := qg_par M (by omega) L5
  by_cases t1 : 27 ≤ T ∧ T ≤ 30
  · rw [decide_eq_true t1.1, decide_eq_true t1.2]
    rcases (show T = 27 ∨ T = 28 ∨ T = 29 ∨ T = 30 by omega) with q | q | q | q
    · have k1 : u.1 83 10 = nI 43 := by rw [i43]; exact q
      simp (disch := omega) only [↓reduceIte, zM_goesOn, qa_lit, k1]; rfl
    · have k1 : u.1 83 10 = nI 45 := by rw [i45]; exact q
      simp (disch := omega) only [↓reduceIte, zM_goesOn, qa_lit, k1, qa_eqF]; rfl
    · have k1 : u.1 83 10 = nI 42 := by rw [i42]; exact q
      simp (disch := omega) only [↓reduceIte, zM_goesOn, qa_lit, k1, qa_eqF]; rfl
    · have k1 : u.1 83 10 = nI 47 := by rw [i47]; exact q
      simp (disch := omega) only [↓reduceIte, zM_goesOn, qa_lit, k1, qa_eqF]; rfl
  · rw [show (decide (27 ≤ T) && decide (T ≤ 30)) = false by simp; omega, Bool.false_or]
    rw [eq_false (show ¬ T = 27 by omega)] at i43
    rw [eq_false (show ¬ T = 28 by omega)] at i45
    rw [eq_false (show ¬ T = 29 by omega)] at i42
    rw [eq_false (show ¬ T = 30 by omega)] at i47
    by_cases t2 : T = 32
    · rw [eq_true t2] at i41
      rw [decide_eq_true t2, Bool.true_and]
      cases hq : decide (40 ∈ pl)
      · rw [hq] at par
        simp only [↓reduceIte, zM_goesOn, qa_lit, i43, i45, i42, i47, i41, par, Option.bind_some, qs_b0]; rfl
      · rw [hq] at par
        simp only [↓reduceIte, zM_goesOn, qa_lit, i43, i45, i42, i47, i41, par, Option.bind_some, qs_b0, Bool.true_eq_false]; rfl
    · rw [eq_false t2] at i41
      rw [decide_eq_false t2, Bool.false_and]
      simp only [↓reduceIte, zM_goesOn, qa_lit, i43, i45, i42, i47, i41]; rfl
/-- an operator of a sum: seg comes off, rest stays -/
theorem qg_reck (hx : x ≤ 41) (hm : m ≤ 2370) (hB : qg_B base k) (Z : qg_Z tl b x m s ds0 base k t cm h u sp nx T lw pl op true aa) {e : Nat} (hT : T = 24 + e) (he : 3 ≤ e ∧ e ≤ 6) {seg rest : List Nat} (hp : pl = seg ++ rest) (hseg : ∀ e' ∈ seg, 3 ≤ e' ∧ e' ≤ 6 ∧ (5 ≤ e → 5 ≤ e')) (hG : qg_G 3 (e :: rest)) (hr : ∀ e', rest.head? = some e' → e' = 40 ∨ (5 ≤ e ∧ (e' = 3 ∨ e' = 4))) :
    (∃ h1 h2 u2 sp' nx' T' lw' pl' op' bo', zR_takeOperator x h = some h1 ∧ (∀ K : Nat → Int32 → Int32 → Int32 → (Nat → Nat → Int32) → Option (Nat → Nat → Int32), ∀ v3 v4, zR_readLaw_J101 K x (nI (s + 3)) v3 v4 h1 = K x (nI (s + 3)) v3 (v4 + 1) h2) ∧ zM_behindOne u = some (nI 0, u2) ∧ qg_Z tl b x m s ds0 base k t cm h2 u2 sp' nx' T' lw' pl' op' bo' aa ∧ sp < sp' ∧ qg_FH x h h2 ∧ qg_FU m u u2) := by
  obtain ⟨L1, L2, L3, L4, L5, L6, L7⟩ := qg_Z_len Z hB
  obtain ⟨S, C, M, ⟨G, go, go8⟩, gr, gn, gl, g21⟩ := id Z
  rw [if_pos rfl] at G gr
  have R := S.2.2.2.2.1
  have e3 := S.2.2.2.1.1
  have nxl : nx ≤ 300 := by have := S.2.2.2.2.2.2.2.1; have := S.1.2.2.1; omega
  have spnx := S.2.2.2.2.2.2.2.2 (by omega)
  have seg36 : ∀ e' ∈ seg, 3 ≤ e' ∧ e' ≤ 6 := fun e' he' => ⟨(hseg e' he').1, (hseg e' he').2.1⟩
  obtain ⟨z1, z2, z3⟩ := qg_seg0 seg seg36
  obtain ⟨r, hr1⟩ : ∃ r, r = (if 5 ≤ e then 6 else 5) := ⟨_, rfl⟩
  obtain ⟨v, hv1⟩ : ∃ v, v = (if 5 ≤ e then 5 else 3) := ⟨_, rfl⟩
  have rkT : qg_rk T = r := by
    rw [hT, hr1]
    rcases (show e = 3 ∨ e = 4 ∨ e = 5 ∨ e = 6 by omega) with rfl | rfl | rfl | rfl <;> rfl
  have scE : qg_sc r (pl.map qg_t ++ base) (lw ++ ds0) op = (rest.map qg_t ++ base, qg_em seg lw ++ ds0, op) := by
    rw [hp, List.map_append, List.append_assoc, qg_sc_app (seg.map qg_t) _ _ (fun t' ht' => by
      obtain ⟨e', x1, x2⟩ := List.mem_map.mp ht'
      obtain ⟨y1, y2, y3⟩ := hseg e' x1
      obtain ⟨q1, q2, q3, q4, q5, q6⟩ := qg_tu e' (by omega) y1
      rw [← x2, hr1]
      refine ⟨?_, q3⟩
      split
      · next w => exact q5 (y3 w)
      · exact q2), qg_map_u seg36, qg_em_app, qg_sc_no]
    intro t' ht'
    cases hrest : rest with
    | nil =>
      rw [hrest, List.map_nil, List.nil_append] at ht'
      have := qg_base0 hB t' ht'
      rw [hr1]
      split <;> omega
    | cons e' l =>
      rw [hrest, List.map_cons, List.cons_append, List.head?_cons] at ht'
      have hh := hr e' (by rw [hrest]; rfl)
      rw [← Option.some.inj ht', hr1]
      rcases hh with w | ⟨w1, w2 | w2⟩
      · rw [w]; split <;> decide
      · rw [w2, if_pos w1]; decide
      · rw [w2, if_pos w1]; decide
  have stE : qg_st v pl (lw ++ ds0) = (rest, qg_em seg lw ++ ds0) := by
    rw [hp, qg_st_app seg _ (fun e' he' => by
      obtain ⟨y1, y2, y3⟩ := hseg e' he'
      rw [hv1]
      refine ⟨by omega, ?_⟩
      split
      · next w => exact y3 w
      · exact y1), qg_em_app, qg_st_no]
    intro e' he'
    rcases hr e' he' with w | ⟨w1, w2⟩
    · omega
    · rw [hv1, if_pos w1]; omega
  obtain ⟨h1, c1, c2, c3⟩ := qg_setC (r := r) hx (by rw [hr1]; split <;> omega) (by rw [hr1]; split <;> omega) (pl.map qg_t ++ base) am_N h (lw ++ ds0) op (Nat.lt_of_le_of_lt L2 (by decide)) (by omega) (by omega) L3 L4 (by omega) C
  rw [scE] at c2
  have c1' : zR_settle x (nI r) h = some h1 := c1
  have rl : (rest.map qg_t ++ base).length ≤ 37 := by
    rw [hp] at L2
    rw [List.length_append, List.length_map] at L2 ⊢
    rw [List.length_append] at L2
    omega
  obtain ⟨h2, p1, p2, p3⟩ := qg_pushC hx c2 (by simp only; omega) T
  obtain ⟨⟨d1, d2⟩, ⟨d3, d4⟩, d5, d6, d7, d8, d9, d10⟩ := id p2
  obtain ⟨G1, G2⟩ := qg_field (g := upd (upd (h2 55) 7 (nI 0)) 8 (qs_b cm)) (ws' := T :: (rest.map qg_t ++ base)) (op' := op) (br' := qg_br pl) (bo' := false) (cm' := cm) (aa' := aa) hx p2 (by rw [pk_un (by omega), pk_un (by omega)]; exact d10) (by rw [pk_un (by omega), pk_un (by omega)]; exact d3) d4 (by rw [pk_un (by omega), pk_un (by omega)]; exact d5) (by rw [pk_un (by omega), pk_un (by omega)]; exact d6) (by rw [pk_un (by omega), pk_us]; rfl) (by rw [pk_us]) (by rw [pk_un (by omega), pk_un (by omega)]; exact d9) (fun j hj => by rw [pk_un (by omega), pk_un (by omega)])
  obtain ⟨u1, a1, a2, a3⟩ := qg_setM (op := op) (bo := true) (v := v) hm (by rw [hv1]; split <;> omega) pl am_N u (lw ++ ds0) (Nat.lt_of_le_of_lt L1 (by decide)) (by omega) (by omega) L5 M
  rw [stE] at a2
  have a1' : zM_settle (nI v) u = some u1 := a1
  have rl2 : rest.length ≤ 26 := by rw [hp, List.length_append] at L1; omega
  obtain ⟨u2, b1, b2, b3⟩ := qg_pushM a2 (by simp only; omega) e
  obtain ⟨F1, F2⟩ := qg_fieldM (g := upd (u2.1 83) 20 (nI 0)) (pl' := e :: rest) (op' := op) (bo' := false) b2 (by rw [pk_un (by omega)]; exact b2.2.1.1) b2.2.1.2 (by rw [pk_un (by omega)]; exact b2.2.2.1) (by rw [pk_us]; rfl) (fun j _ _ j3 => by rw [pk_un j3])
  have S1 := qg_S_t hx ((c3.tr p3).tr G2) ((a3.tr b3).tr F2) S
  obtain ⟨h3, u3, sp', nx', T', y1, y2, y3, y4, y5⟩ := qt_go S1
  have tE : T = qg_t e := by
    rw [hT]
    unfold qg_t
    rw [if_neg (by omega), if_neg (by omega)]
  have ebr : qg_br pl = qg_br (e :: rest) := by rw [hp, qg_br_app, qg_br_c, z2, if_neg (by omega)]; omega
  have eo : qg_o pl = qg_o (e :: rest) := by rw [hp, qg_o_app, qg_o_c, z1, if_neg (by omega)]; omega
  have ebi : qg_bi pl = seg.length + qg_bi rest := by rw [hp, qg_bi_app, z3]
  refine ⟨va_up h2 55 (upd (upd (h2 55) 7 (nI 0)) 8 (qs_b cm)), h3, u3, sp', nx', T', qg_em seg lw, e :: rest, op, false, ?_, fun K v3 v4 => ?_, ?_, ⟨y3, ?_, qg_M_t y5 F1, ⟨hG, by omega, go8⟩, ?_, ?_, ?_, ?_⟩, by omega, ((c3.tr p3).tr G2).F.tr (qt_fr.H hx y5), ((a3.tr b3).tr F2).F.tr (qt_fr.U y5)⟩
  · have rk := (qg_rkH T (by omega)).1
    rw [rkT] at rk
    cases cm
    · have w8 : (upd (h2 55) 7 (nI 0)) 8 = nI 0 := by rw [pk_un (by omega)]; exact d8
      simp (disch := omega) only [↓reduceIte, ↓qa_b, zR_takeOperator, zR_takeOperator_J28, zR_takeOperator_J45, zR_takeOperator_J46, zR_takeOperator_J65, zR_takeOperator_J88, zR_takeOperator_J112, e3, qa_lit, qa_eqF, qa_ltF, qa_ltT, rk, c1', p1, Option.bind_some, va_up_self, qa_up2, w8]
      rfl
    · have w8 : (upd (h2 55) 7 (nI 0)) 8 = nI 1 := by rw [pk_un (by omega)]; exact d8
      simp (disch := omega) only [↓reduceIte, ↓qa_b, zR_takeOperator, zR_takeOperator_J28, zR_takeOperator_J45, zR_takeOperator_J46, zR_takeOperator_J65, zR_takeOperator_J88, zR_takeOperator_J112, e3, qa_lit, qa_eqF, qa_ltF, qa_ltT, rk, c1', p1, Option.bind_some, va_up_self, qa_up2, w8]
      rfl
  · have z7 := G1.2.2.2.2.1
    have z7' : va_up h2 55 (upd (upd (h2 55) 7 (nI 0)) 8 (qs_b cm)) 55 7 = nI 0 := z7
    have z1' := G1.2.2.2.2.2.2.2
    simp (disch := omega) only [↓reduceIte, zR_readLaw_J101, zR_readLaw_J118, z7', qa_lit, z1', y1, Option.bind_some]
  · have i := fun {j : Nat} (h1 : 21 ≤ j) (h2 : j ≤ 36) {k : Nat} (hk : qt_kind j = k) => qt_is R h1 h2 hk
    have i43 := i (j := 27) (by omega) (by omega) (k := 43) rfl
    have i45 := i (j := 28) (by omega) (by omega) (k := 45) rfl
    have i42 := i (j := 29) (by omega) (by omega) (k := 42) rfl
    have i47 := i (j := 30) (by omega) (by omega) (k := 47) rfl
    rcases (show e = 3 ∨ e = 4 ∨ e = 5 ∨ e = 6 by omega) with q | q | q | q
    · subst q
      have k1 : u.1 83 10 = nI 43 := by rw [i43]; exact hT
      rw [show v = 3 from hv1] at a1'
      simp (disch := omega) only [↓reduceIte, ↓qa_b, zM_behindOne, zM_behindOne_J17, zM_behindOne_J34, zM_behindOne_J115, k1, qa_lit, qa_eqF, a1', b1, Option.bind_some, y2]
    · subst q
      have k1 : u.1 83 10 = nI 45 := by rw [i45]; exact hT
      rw [show v = 3 from hv1] at a1'
      simp (disch := omega) only [↓reduceIte, ↓qa_b, zM_behindOne, zM_behindOne_J17, zM_behindOne_J34, zM_behindOne_J115, k1, qa_lit, qa_eqF, a1', b1, Option.bind_some, y2]
    · subst q
      have k1 : u.1 83 10 = nI 42 := by rw [i42]; exact hT
      rw [show v = 5 from hv1] at a1'
      simp (disch := omega) only [↓reduceIte, ↓qa_b, zM_behindOne, zM_behindOne_J57, zM_behindOne_J75, zM_behindOne_J115, k1, qa_lit, qa_eqF, a1', b1, Option.bind_some, y2]
    · subst q
      have k1 : u.1 83 10 = nI 47 := by rw [i47]; exact hT
      rw [show v = 5 from hv1] at a1'
      simp (disch := omega) only [↓reduceIte, ↓qa_b, zM_behindOne, zM_behindOne_J57, zM_behindOne_J75, zM_behindOne_J115, k1, qa_lit, qa_eqF, a1', b1, Option.bind_some, y2]
  · rw [tE] at G1
    rw [← ebr]
    exact qg_C_t hx y5.1 G1
  · rw [qg_bi_c, if_pos he, if_neg (show ¬ (false = true) by decide)]
    have := qg_rn_bin seg lw ((if cm then 1 else 0) + qg_bi pl + 1) seg36 (by omega) gr
    rw [this]
    congr 2
    omega
  · intro q' hq'
    rcases qg_em_mem _ _ hq' with w | ⟨e', w1, w2⟩
    · exact gn q' w
    · rw [w2]
      exact qg_nm_e (by have := seg36 e' w1; omega)
  · rw [List.length_append, qg_em_len, List.length_cons]
    rw [List.length_append, hp, List.length_append] at gl
    omega
  · rw [y5.2.2 21 (by omega) (by omega) (by omega) (by omega), ((a3.tr b3).tr F2).2.1 21 (by omega) (by omega) (by omega) (by omega)]
    exact g21
/-- a bracket closes -/
theorem qg_close (hx : x ≤ 41) (hm : m ≤ 2370) (hB : qg_B base k) (Z : qg_Z tl b x m s ds0 base k t cm h u sp nx T lw pl op true aa) (hT : T = 32) {seg l : List Nat} (hp : pl = seg ++ 40 :: l) (hseg : ∀ e' ∈ seg, 3 ≤ e' ∧ e' ≤ 6) (hG : qg_G 3 l) :
    (∃ h1 h2 u2 sp' nx' T' lw' pl' op' bo', zR_takeOperator x h = some h1 ∧ (∀ K : Nat → Int32 → Int32 → Int32 → (Nat → Nat → Int32) → Option (Nat → Nat → Int32), ∀ v3 v4, zR_readLaw_J101 K x (nI (s + 3)) v3 v4 h1 = K x (nI (s + 3)) v3 (v4 + 1) h2) ∧ zM_behindOne u = some (nI 0, u2) ∧ qg_Z tl b x m s ds0 base k t cm h2 u2 sp' nx' T' lw' pl' op' bo' aa ∧ sp < sp' ∧ qg_FH x h h2 ∧ qg_FU m u u2) := by
  obtain ⟨L1, L2, L3, L4, L5, L6, L7⟩ := qg_Z_len Z hB
  obtain ⟨S, C, M, ⟨G, go, go8⟩, gr, gn, gl, g21⟩ := id Z
  rw [if_pos rfl] at G gr
  have R := S.2.2.2.2.1
  have e3 := S.2.2.2.1.1
  have nxl : nx ≤ 300 := by have := S.2.2.2.2.2.2.2.1; have := S.1.2.2.1; omega
  have spnx := S.2.2.2.2.2.2.2.2 (by omega)
  obtain ⟨z1, z2, z3⟩ := qg_seg0 seg hseg
  have ebr : qg_br pl = qg_br l + 1 := by rw [hp, qg_br_app, qg_br_c, z2, if_pos rfl]; omega
  have eo : qg_o pl = qg_o l + 1 := by rw [hp, qg_o_app, qg_o_c, z1, if_pos (Or.inl rfl)]; omega
  have ebi : qg_bi pl = seg.length + qg_bi l := by rw [hp, qg_bi_app, z3, qg_bi_c, if_neg (by omega)]; rfl
  have plen : pl.length = seg.length + (l.length + 1) := by rw [hp, List.length_append, List.length_cons]
  have mml := qg_G_m l hG
  have scE : qg_sc 1 (pl.map qg_t ++ base) (lw ++ ds0) op = (31 :: (l.map qg_t ++ base), qg_em seg lw ++ ds0, op) := by
    rw [hp, List.map_append, List.append_assoc, qg_sc_app (seg.map qg_t) _ _ (fun t' ht' => by
      obtain ⟨e', x1, x2⟩ := List.mem_map.mp ht'
      obtain ⟨q1, q2, q3, q4, q5, q6⟩ := qg_tu e' (by have := hseg e' x1; omega) (hseg e' x1).1
      rw [← x2]
      exact ⟨by omega, q3⟩), qg_map_u hseg, qg_em_app, qg_sc_no]
    · rfl
    · intro t' ht'
      rw [List.map_cons, List.cons_append, List.head?_cons] at ht'
      rw [← Option.some.inj ht']
      decide
  have stE : qg_st 3 pl (lw ++ ds0) = (40 :: l, qg_em seg lw ++ ds0) := by
    rw [hp, qg_st_app seg _ (fun e' he' => by have := hseg e' he'; omega), qg_em_app, qg_st_no]
    intro e' he'
    rw [← Option.some.inj he']
    omega
  obtain ⟨h1, c1, c2, c3⟩ := qg_setC (r := 1) hx (by omega) (by omega) (pl.map qg_t ++ base) am_N h (lw ++ ds0) op (Nat.lt_of_le_of_lt L2 (by decide)) (by omega) (by omega) L3 L4 (by omega) C
  rw [scE] at c2
  have c1' : zR_settle x (nI 1) h = some h1 := c1
  obtain ⟨⟨d1, d2⟩, ⟨d3, d4⟩, d5, d6, d7, d8, d9, d10⟩ := id c2
  simp only [List.length_cons] at d3
  obtain ⟨op', hop⟩ : ∃ op', op = op' + 1 := ⟨op - 1, by omega⟩
  simp only at d5 d6
  rw [hop] at d5
  rw [ebr] at d6
  obtain ⟨G1, G2⟩ := qg_field (g := upd (upd (upd (h1 55) 4 (nI (l.map qg_t ++ base).length)) 6 (nI (qg_br l))) 5 (nI op')) (ws' := l.map qg_t ++ base) (op' := op') (br' := qg_br l) (bo' := true) (cm' := cm) (aa' := aa) hx c2 (by rw [pk_un (by omega), pk_un (by omega), pk_un (by omega)]; exact d10) (by rw [pk_un (by omega), pk_un (by omega), pk_us]) d4.2 (by rw [pk_us]) (by rw [pk_un (by omega), pk_us]) (by rw [pk_un (by omega), pk_un (by omega), pk_un (by omega)]; exact d7) (by rw [pk_un (by omega), pk_un (by omega), pk_un (by omega)]; exact d8) (by rw [pk_un (by omega), pk_un (by omega), pk_un (by omega)]; exact d9) (fun j hj => by rw [pk_un (by omega), pk_un (by omega), pk_un (by omega)])
  have wl : (l.map qg_t ++ base).length ≤ 36 := by
    rw [List.length_append, List.length_map] at L2 ⊢
    omega
  have wl2 : (qg_em seg lw ++ ds0).length + (l.map qg_t ++ base).length ≤ sp := by
    rw [List.length_append, qg_em_len]
    rw [List.length_append, List.length_map]
    rw [List.length_append] at gl
    omega
  obtain ⟨h2, f1, f2, f3⟩ := qg_setC (r := 7) hx (by omega) (by omega) (l.map qg_t ++ base) am_N _ (qg_em seg lw ++ ds0) op' (Nat.lt_of_le_of_lt wl (by decide)) (by omega) (by omega) (fun t' ht' => L3 t' (by
    rw [hp, List.map_append, List.append_assoc]
    exact List.mem_append_right _ (List.mem_cons_of_mem _ ht'))) (by
    rw [hp, List.map_append, List.append_assoc, List.countP_append] at L4
    have : List.countP qg_on (List.map qg_t (40 :: l) ++ base) = List.countP qg_on (List.map qg_t l ++ base) := by
      rw [List.map_cons, List.cons_append, List.countP_cons]
      rfl
    rw [List.countP_append, hB.2.1, List.countP_map]
    have : l.countP (qg_on ∘ qg_t) ≤ qg_o l := List.countP_mono_left (fun e he h => by
      rcases mml e he with z | z | z | z | z | z
      · subst z; rfl
      · subst z; exact absurd h (by decide)
      · subst z; exact absurd h (by decide)
      · subst z; exact absurd h (by decide)
      · subst z; exact absurd h (by decide)
      · subst z; rfl)
    omega) (by omega) G1
  rw [qg_neg (qg_base0 hB) l _ _ mml] at f2
  obtain ⟨w0, j, w1, w2, w3, w4, w5, w6⟩ := qg_wh_s l (qg_em seg lw ++ ds0) op' hG (by omega)
  obtain ⟨u1, a1, a2, a3⟩ := qg_setM (op := op) (bo := true) (v := 3) hm (by omega) pl am_N u (lw ++ ds0) (Nat.lt_of_le_of_lt L1 (by decide)) (by omega) (by omega) L5 M
  rw [stE] at a2
  have a1' : zM_settle (nI 3) u = some u1 := a1
  obtain ⟨⟨k1, k2, k3⟩, ⟨k4, k5⟩, k6, k7⟩ := id a2
  simp only [List.length_cons] at k4
  rw [hop] at k6
  obtain ⟨F1, F2⟩ := qg_fieldM (g := upd (upd (upd (u1.1 83) 18 (nI l.length)) 19 (nI op')) 20 (nI 1)) (pl' := l) (op' := op') (bo' := true) a2 (by rw [pk_un (by omega), pk_un (by omega), pk_us]) k5.2 (by rw [pk_un (by omega), pk_us]) (by rw [pk_us]; rfl) (fun j j1 j2 j3 => by rw [pk_un j3, pk_un j2, pk_un j1])
  obtain ⟨u3, b1, b2, b3⟩ := qg_whM (bo := true) hm l am_N _ (qg_em seg lw ++ ds0) op' (Nat.lt_of_le_of_lt (show l.length ≤ 26 by omega) (by decide)) (by rw [List.length_append (as := l.map qg_t), List.length_map] at wl2; omega) (by omega) (fun e he => by have := mml e he; omega) (by
    have : l.countP (fun e => decide (e = 2)) ≤ qg_o l := List.countP_mono_left (fun e _ h => by simp at h ⊢; exact Or.inr h)
    omega) (by omega) F1
  obtain ⟨Q, hQ⟩ : ∃ Q, Q = qg_wh l (qg_em seg lw ++ ds0) op' := ⟨_, rfl⟩
  rw [← hQ] at f2 w0 w1 w2 w3 w4 w5 w6 b2
  have eq : Q.2.1 = qg_em (List.replicate j 2) (qg_em seg lw) ++ ds0 := by rw [w1, qg_em_app]
  have S1 := qg_S_t hx ((c3.tr G2).tr f3) ((a3.tr F2).tr b3) S
  obtain ⟨h4, u4, sp', nx', T', y1, y2, y3, y4, y5⟩ := qt_go S1
  refine ⟨va_up h1 55 (upd (upd (upd (h1 55) 4 (nI (l.map qg_t ++ base).length)) 6 (nI (qg_br l))) 5 (nI op')), h4, u4, sp', nx', T', qg_em (List.replicate j 2) (qg_em seg lw), Q.1, Q.2.2, true, ?_, fun K v3 v4 => ?_, ?_, ⟨y3, ?_, ?_, ⟨w0, by omega, by omega⟩, ?_, ?_, ?_, ?_⟩, by omega, ((c3.tr G2).tr f3).F.tr (qt_fr.H hx y5), ((a3.tr F2).tr b3).F.tr (qt_fr.U y5)⟩
  · have b6 := C.2.2.2.1
    rw [ebr] at b6
    subst hT
    have em : nI ((l.map qg_t ++ base).length + 1) - nI 1 = nI (l.map qg_t ++ base).length := by rw [qa_sub (by omega), Nat.add_sub_cancel]
    have eb1 : nI (qg_br l + 1) - nI 1 = nI (qg_br l) := by rw [qa_sub (by omega), Nat.add_sub_cancel]
    have eo1 : nI (op' + 1) - nI 1 = nI op' := by rw [qa_sub (by omega), Nat.add_sub_cancel]
    have mx : zD_max (nI 0) (nI (l.map qg_t ++ base).length) = nI (l.map qg_t ++ base).length := by
      unfold zD_max
      by_cases z : 0 < (l.map qg_t ++ base).length
      · rw [if_pos (by rw [qa_ltT z (by omega)]; trivial)]
      · rw [if_neg (by rw [qa_ltF (by omega) (by omega)]; exact id), show (l.map qg_t ++ base).length = 0 by omega]
    simp (disch := omega) only [↓reduceIte, ↓qa_b, zR_takeOperator, zR_takeOperator_J28, zR_takeOperator_J45, zR_takeOperator_J46, zR_takeOperator_J64, zR_takeOperator_J65, zR_closeBracket, e3, qa_lit, qa_eqF, qa_ltF, qa_ltT, b6, c1', Option.bind_some, d3, em, mx, va_up_self, qa_up2, pk_un, d6, eb1, d5, eo1]
  · have z7 : va_up h1 55 (upd (upd (upd (h1 55) 4 (nI (l.map qg_t ++ base).length)) 6 (nI (qg_br l))) 5 (nI op')) 55 7 = nI 1 := G1.2.2.2.2.1
    have z1' : h2 55 1 = nI 0 := f2.2.2.2.2.2.2.2
    have z2' := (qg_rkH 38 (by omega)).1
    rw [show qg_rk 38 = 7 from rfl] at z2'
    have f1' : zR_settle x (nI 7) (va_up h1 55 (upd (upd (upd (h1 55) 4 (nI (l.map qg_t ++ base).length)) 6 (nI (qg_br l))) 5 (nI op'))) = some h2 := f1
    simp (disch := omega) only [↓reduceIte, ↓qa_b, zR_readLaw_J101, zR_readLaw_J118, z7, qa_lit, qa_eqF, z2', f1', Option.bind_some, z1', y1]
  · have i := fun {j : Nat} (h1 : 21 ≤ j) (h2 : j ≤ 36) {k : Nat} (hk : qt_kind j = k) => qt_is R h1 h2 hk
    have k41 : u.1 83 10 = nI 41 := by rw [i (j := 32) (by omega) (by omega) (k := 41) rfl]; exact hT
    have el : nI (l.length + 1) - nI 1 = nI l.length := by rw [qa_sub (by omega), Nat.add_sub_cancel]
    have eo1 : nI (op' + 1) - nI 1 = nI op' := by rw [qa_sub (by omega), Nat.add_sub_cancel]
    simp (disch := omega) only [↓reduceIte, ↓qa_b, zM_behindOne, zM_behindOne_J115, zM_whole, k41, qa_lit, qa_eqF, a1', Option.bind_some, qa_f1, va_up_self, qa_up2, pk_un, k4, el, k6, eo1, b1, y2]
  · have := qg_C_t hx y5.1 f2
    rw [eq] at this
    rw [w4]
    exact this
  · rw [eq] at b2
    exact qg_M_t y5 b2
  · rw [w5, if_pos rfl]
    have := qg_rn_bin seg lw ((if cm then 1 else 0) + qg_bi pl + 1) hseg (by omega) gr
    rw [show (if cm = true then 1 else 0) + qg_bi pl + 1 - seg.length = (if cm = true then 1 else 0) + qg_bi l + 1 by omega] at this
    exact qg_rn_neg j _ (by omega) this
  · intro q' hq'
    rcases qg_em_mem _ _ hq' with w | ⟨e', w1, w2⟩
    · rcases qg_em_mem _ _ w with w | ⟨e', w1, w2⟩
      · exact gn q' w
      · rw [w2]
        exact qg_nm_e (by have := hseg e' w1; omega)
    · rw [w2, List.eq_of_mem_replicate w1]
      exact qg_nm_e (by omega)
  · rw [List.length_append, qg_em_len, qg_em_len, List.length_replicate]
    rw [List.length_append] at gl
    omega
  · rw [y5.2.2 21 (by omega) (by omega) (by omega) (by omega), ((a3.tr F2).tr b3).2.1 21 (by omega) (by omega) (by omega) (by omega)]
    exact g21
/-- behind a ONE: on, or the sum ends -/
theorem qg_opr (hx : x ≤ 41) (hm : m ≤ 2370) (hB : qg_B base k) (Z : qg_Z tl b x m s ds0 base k t cm h u sp nx T lw pl op true aa) :
    (zM_goesOn u = some (nI 1) ∧ ∃ h1 h2 u2 sp' nx' T' lw' pl' op' bo', zR_takeOperator x h = some h1 ∧ (∀ K : Nat → Int32 → Int32 → Int32 → (Nat → Nat → Int32) → Option (Nat → Nat → Int32), ∀ v3 v4, zR_readLaw_J101 K x (nI (s + 3)) v3 v4 h1 = K x (nI (s + 3)) v3 (v4 + 1) h2) ∧ zM_behindOne u = some (nI 0, u2) ∧ qg_Z tl b x m s ds0 base k t cm h2 u2 sp' nx' T' lw' pl' op' bo' aa ∧ sp < sp' ∧ qg_FH x h h2 ∧ qg_FU m u u2) ∨
    (zM_goesOn u = some (nI 0) ∧ ¬ (27 ≤ T ∧ T ≤ 30) ∧ ¬ (T = 32 ∧ 40 ∈ pl)) := by
  have go := qg_goes Z hB
  have G := Z.2.2.2.1.1
  rw [if_pos rfl] at G
  by_cases t1 : 27 ≤ T ∧ T ≤ 30
  · left
    rw [decide_eq_true t1.1, decide_eq_true t1.2] at go
    refine ⟨go, ?_⟩
    by_cases t5 : 29 ≤ T
    · obtain ⟨bs, as, e1, b1, a1, -⟩ := qg_G2 G
      refine qg_reck hx hm hB Z (e := T - 24) (by omega) (by omega) e1 (fun e' he' => ?_) ?_ (fun e' he' => ?_)
      · rcases b1 with b1 | ⟨b, b1, b3⟩
        · rw [b1] at he'; cases he'
        · rw [b1, List.mem_singleton] at he'; omega
      · exact Or.inr (Or.inl ⟨by omega, by omega, a1⟩)
      · obtain ⟨a2, rest, e2, b2, r⟩ := qg_G1 a1
        rw [e2] at he'
        rcases b2 with b2 | ⟨b, b2, b3⟩
        · rw [b2, List.nil_append] at he'
          rcases r with r | ⟨l, r, -⟩
          · rw [r] at he'; cases he'
          · rw [r] at he'
            exact Or.inl (Option.some.inj he').symm
        · rw [b2] at he'
          have : b = e' := Option.some.inj he'
          right
          omega
    · obtain ⟨seg, rest, e1, b1, r⟩ := qg_seg G
      refine qg_reck hx hm hB Z (e := T - 24) (by omega) (by omega) e1 (fun e' he' => ⟨(b1 e' he').1, (b1 e' he').2, fun z => by omega⟩) ?_ (fun e' he' => ?_)
      · refine Or.inr (Or.inr (Or.inl ⟨by omega, by omega, ?_⟩))
        rcases r with r | ⟨l, r, rg⟩
        · rw [r]; trivial
        · rw [r]
          exact Or.inr (Or.inr (Or.inr ⟨rfl, rg⟩))
      · rcases r with r | ⟨l, r, -⟩
        · rw [r] at he'; cases he'
        · rw [r] at he'
          exact Or.inl (Option.some.inj he').symm
  · rw [show (decide (27 ≤ T) && decide (T ≤ 30)) = false by simp; omega, Bool.false_or] at go
    by_cases t2 : T = 32 ∧ 40 ∈ pl
    · left
      rw [decide_eq_true t2.1, decide_eq_true t2.2] at go
      refine ⟨go, ?_⟩
      obtain ⟨seg, rest, e1, b1, r⟩ := qg_seg G
      rcases r with r | ⟨l, r, rg⟩
      · exfalso
        rw [e1, r, List.append_nil] at t2
        have := b1 40 t2.2
        omega
      · rw [r] at e1
        exact qg_close hx hm hB Z t2.1 e1 b1 rg
    · right
      rw [show (decide (T = 32) && decide (40 ∈ pl)) = false by
        rw [Bool.and_eq_false_iff]
        by_cases z : T = 32
        · exact Or.inr (decide_eq_false (fun y => t2 ⟨z, y⟩))
        · exact Or.inl (decide_eq_false z)] at go
      exact ⟨go, t1, t2⟩
end
