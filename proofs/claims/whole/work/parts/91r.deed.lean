/-! THE HEART: the reader: a deed to its end, both -/
section
variable {tl : Nat} {b : Nat → Nat} {x m : Nat}
/-- the outcome of a clause: a fault -/
def qg_DF (x m : Nat) (h : Nat → Nat → Int32) (u : zHM) (X : Option (Nat → Nat → Int32)) (M : Option (Int32 × zHM)) : Prop := ∃ f p h' u', 1 ≤ f ∧ f ≤ 6 ∧ X = some h' ∧ h' 55 1 = nI f ∧ h' 55 2 = nI p ∧ (∀ c, c ≠ 55 → c ≠ 56 → c ≠ 58 → c < x ∨ x + 6 < c → h' c = h c) ∧ M = some (nI f, u') ∧ u'.1 83 9 = nI p ∧ (∀ c, c ≠ 83 → c ≠ 86 → c ≠ 88 → u'.1 c = u.1 c) ∧ (∀ j, j < 8 → u'.1 83 j = u.1 83 j) ∧ (∀ j, j < m ∨ m + 185 ≤ j → u'.1 86 j = u.1 86 j)
/-- or both are behind it -/
def qg_DO (tl : Nat) (b : Nat → Nat) (x m c sr : Nat) (h : Nat → Nat → Int32) (u : zHM) (sp : Nat) (X : Option (Nat → Nat → Int32)) (M : Option (Int32 × zHM)) : Prop := ∃ y1 y2 h' u' sp' nx' T', X = some h' ∧ M = some (nI 0, u') ∧ qt_S tl b h' u' sp' nx' T' ∧ sp < sp' ∧ h' x 0 = nI (c + 1) ∧ h' (x + 1) = upd (h (x + 1)) c (nI (sr + 3)) ∧ h' (x + 2) = upd (h (x + 2)) c (nI y1) ∧ h' (x + 3) = upd (h (x + 3)) c (nI y2) ∧ qg_DH x h h' ∧ h' 55 1 = nI 0 ∧ u'.1 86 m = nI (c + 1) ∧ (3 ≤ sr → sr ≠ 7 → y1 ≤ 5 ∧ u'.1 86 (m + 1 + 3 * c + 1) = nI y1) ∧ (sr = 3 ∨ sr = 5 ∨ sr = 6 → y2 ≤ 7 ∧ u'.1 86 (m + 1 + 3 * c + 2) = nI y2) ∧ (∀ j, j ≠ m → j ≠ m + 1 + 3 * c + 1 → j ≠ m + 1 + 3 * c + 2 → u'.1 86 j = u.1 86 j) ∧ (∀ c, c ≠ 83 → c ≠ 86 → u'.1 c = u.1 c) ∧ (∀ j, j ≠ 8 → j ≠ 9 → j ≠ 10 → j ≠ 11 → u'.1 83 j = u.1 83 j)
/-- the semicolon -/
theorem qg_semi (hx : x ≤ 41) (hm : m ≤ 2370) {c sr y1 y2 sp0 : Nat} (hc : c < 50) {h h0 : Nat → Nat → Int32} {u u0 : zHM} {sp nx T : Nat} (S : qt_S tl b h u sp nx T) (e1 : h 55 1 = nI 0) (e0 : h x 0 = nI c) (k13 : u.1 83 13 = nI m) (k86 : u.1 86 m = nI c) (hsp : sp0 ≤ sp)
    (FH : ∀ c, c ≠ 56 → h c = h0 c) (FU : ∀ c, c ≠ 83 → c ≠ 86 → u.1 c = u0.1 c) (FJ : ∀ j, j ≠ 8 → j ≠ 9 → j ≠ 10 → j ≠ 11 → u.1 83 j = u0.1 83 j) (F86 : ∀ j, j ≠ m + 1 + 3 * c + 1 → j ≠ m + 1 + 3 * c + 2 → u.1 86 j = u0.1 86 j) (Y1 : 3 ≤ sr → sr ≠ 7 → y1 ≤ 5 ∧ u.1 86 (m + 1 + 3 * c + 1) = nI y1) (Y2 : sr = 3 ∨ sr = 5 ∨ sr = 6 → y2 ≤ 7 ∧ u.1 86 (m + 1 + 3 * c + 2) = nI y2) :
    qg_DF x m h0 u0 (zR_readDeed_J81 x (nI (sr + 3)) (nI y1) (nI y2) h) (zM_clause_J154 u) ∨ qg_DO tl b x m c sr h0 u0 sp0 (zR_readDeed_J81 x (nI (sr + 3)) (nI y1) (nI y2) h) (zM_clause_J154 u) := by
  have R := S.2.2.2.2.1
  have e3 := S.2.2.2.1.1
  have i59 := qt_is R (j := 34) (by omega) (by omega) (k := 59) rfl
  generalize hy : ((va_up u.1 86 (upd (u.1 86) m (nI (c + 1))), u.2) : zHM) = y
  have y0 : ∀ c, c ≠ 86 → y.1 c = u.1 c := fun c q => by subst hy; simp (disch := omega) only [↓reduceIte, ↓qa_b, qa_b, qa_lit, qa_neg1, qa_qN, nI_add, pk_mul, qa_ix, qa_cl, qa_ltT, qa_ltF, qa_eqT, qa_eqF, qa_nN, qa_Nn, qa_ltN, qa_Nlt, qa_NN, qa_ltNN, qa_sub, qa_dec, qa_dec0, qa_sub0, qa_incN, qa_31, qa_shr, qa_shl, qa_and1, va_up_self, qa_une, pk_us, pk_un, qa_up2, qa_upd2, Option.bind_some, if_true, if_false, and_true, true_and, and_self, qa_f1, qa_f2]
  have y86 : y.1 86 = upd (u.1 86) m (nI (c + 1)) := by subst hy; simp (disch := omega) only [↓reduceIte, ↓qa_b, qa_b, qa_lit, qa_neg1, qa_qN, nI_add, pk_mul, qa_ix, qa_cl, qa_ltT, qa_ltF, qa_eqT, qa_eqF, qa_nN, qa_Nn, qa_ltN, qa_Nlt, qa_NN, qa_ltNN, qa_sub, qa_dec, qa_dec0, qa_sub0, qa_incN, qa_31, qa_shr, qa_shl, qa_and1, va_up_self, qa_une, pk_us, pk_un, qa_up2, qa_upd2, Option.bind_some, if_true, if_false, and_true, true_and, and_self, qa_f1, qa_f2]
  have y2' : y.2 = u.2 := by subst hy; rfl
  have Sy : qt_S tl b h y sp nx T := qt_S_f ⟨rfl, rfl⟩ (y0 87 (by omega)) (fun j hj => by rw [y0 83 (by omega)]) (by rw [y2']) S
  by_cases t : T = 34
  · right
    have spnx := S.2.2.2.2.2.2.2.2 (by omega)
    have k59 : y.1 83 10 = nI 59 := by rw [y0 83 (by omega), i59]; exact t
    obtain ⟨h1, u1, sp', nx', T', d1, d2, d3, d4, d5⟩ := qt_go Sy
    obtain ⟨h2, z1, z2, z3, z4, z5, z6, z7⟩ := qg_addCl hx (h := h1) hc (by rw [d5.1 x (by omega)]; exact e0) (nI (sr + 3)) (nI y1) (nI y2)
    rw [t] at e3
    refine ⟨y1, y2, h2, u1, sp', nx', T', ?_, ?_, ?_, by omega, z2, ?_, ?_, ?_, ⟨fun c c1 c2 c3 => ?_, ?_, ?_, ?_, fun j hj => ?_, fun j => ?_⟩, ?_, ?_, fun q1 q2 => ⟨(Y1 q1 q2).1, ?_⟩, fun q => ⟨(Y2 q).1, ?_⟩, fun j j1 j2 j3 => ?_, fun c c1 c2 => ?_, fun j j1 j2 j3 j4 => ?_⟩
    · simp (disch := omega) only [↓reduceIte, zR_readDeed_J81, zR_takeToken, e1, e3, qa_lit, d1, Option.bind_some, z1]
    · rw [← hy] at d2 k59
      have k59' : va_up u.1 86 (upd (u.1 86) m (nI (c + 1))) 83 10 = nI 59 := k59
      simp (disch := omega) only [↓reduceIte, ↓qa_b, zM_clause_J154, k13, qa_ix, qa_cl, k86, qa_lit, nI_add, k59', d2, Option.bind_some]
    · exact qt_S_f ⟨z6 56 (by omega) (by omega) (by omega) (by omega), z6 57 (by omega) (by omega) (by omega) (by omega)⟩ rfl (fun _ _ => rfl) rfl d3
    · rw [z3, d5.1 (x + 1) (by omega), FH (x + 1) (by omega)]
    · rw [z4, d5.1 (x + 2) (by omega), FH (x + 2) (by omega)]
    · rw [z5, d5.1 (x + 3) (by omega), FH (x + 3) (by omega)]
    · rw [z6 c (by omega) (by omega) (by omega) (by omega), d5.1 c c2, FH c c2]
    · rw [z6 (x + 4) (by omega) (by omega) (by omega) (by omega), d5.1 (x + 4) (by omega), FH (x + 4) (by omega)]
    · rw [z6 (x + 5) (by omega) (by omega) (by omega) (by omega), d5.1 (x + 5) (by omega), FH (x + 5) (by omega)]
    · rw [z6 (x + 6) (by omega) (by omega) (by omega) (by omega), d5.1 (x + 6) (by omega), FH (x + 6) (by omega)]
    · rw [z7 j hj, d5.1 x (by omega), FH x (by omega)]
    · rw [z6 55 (by omega) (by omega) (by omega) (by omega), d5.1 55 (by omega), FH 55 (by omega)]
    · rw [z6 55 (by omega) (by omega) (by omega) (by omega), d5.1 55 (by omega)]; exact e1
    · rw [d5.2.1 86 (by omega), y86, pk_us]
    · rw [d5.2.1 86 (by omega), y86, pk_un (by omega)]; exact (Y1 q1 q2).2
    · rw [d5.2.1 86 (by omega), y86, pk_un (by omega)]; exact (Y2 q).2
    · rw [d5.2.1 86 (by omega), y86, pk_un j1]; exact F86 j j2 j3
    · rw [d5.2.1 c c1, y0 c c2, FU c c1 c2]
    · rw [d5.2.2 j j1 j2 j3 j4, y0 83 (by omega)]; exact FJ j j1 j2 j3 j4
  · left
    have n59 : ¬ (y.1 83 10 = nI 59) := by rw [y0 83 (by omega), i59]; exact t
    have tk := qg_tok S e1 (D := 34) (by omega) t
    generalize hg : va_up h 55 (upd (upd (h 55) 1 (nI 1)) 2 (nI sp)) = g at tk
    have g0 : ∀ c, c ≠ 55 → g c = h c := fun c a => by subst hg; exact qa_une _ _ a
    have g55 : g 55 = upd (upd (h 55) 1 (nI 1)) 2 (nI sp) := by subst hg; exact va_up_self _ _ _
    obtain ⟨h2, z1, z2, z3, z4, z5, z6, z7⟩ := qg_addCl hx (h := g) hc (by rw [g0 x (by omega)]; exact e0) (nI (sr + 3)) (nI y1) (nI y2)
    refine ⟨1, sp, h2, y, by omega, by omega, ?_, by rw [z6 55 (by omega) (by omega) (by omega) (by omega), g55, pk_un (by omega), pk_us], by rw [z6 55 (by omega) (by omega) (by omega) (by omega), g55, pk_us], fun c c1 c2 c3 c4 => by rw [z6 c (by omega) (by omega) (by omega) (by omega), g0 c c1, FH c c2], ?_, by rw [y0 83 (by omega)]; exact S.2.2.1.2, fun c c1 c2 c3 => by rw [y0 c c2, FU c c1 c2], fun j hj => by rw [y0 83 (by omega)]; exact FJ j (by omega) (by omega) (by omega) (by omega), fun j hj => by rw [y86, pk_un (by omega)]; exact F86 j (by omega) (by omega)⟩
    · simp only [zR_readDeed_J81, qa_lit, tk, Option.bind_some, z1]
    · rw [← hy] at n59 ⊢
      simp (disch := omega) only [↓reduceIte, ↓qa_b, zM_clause_J154, k13, qa_ix, qa_cl, k86, qa_lit, nI_add, n59]
theorem qg_deed (hx : x ≤ 41) (hm : m ≤ 2370) {c sr : Nat} (hc : c < 50) (hs3 : 3 ≤ sr) (hs7 : sr ≤ 7) {h : Nat → Nat → Int32} {u : zHM} {sp nx T : Nat} (S : qt_S tl b h u sp nx T) (e1 : h 55 1 = nI 0) (e0 : h x 0 = nI c) (k13 : u.1 83 13 = nI m) (k86 : u.1 86 m = nI c) (v4 : Int32) :
    qg_DF x m h u (zR_readDeed x (nI (sr + 3)) h) ((zM_playedBy (nI (m + 1 + 3 * c)) (nI sr) u).bind fun r30 => zM_clause_J117 (nI sr) (nI (m + 1 + 3 * c)) v4 r30.1 r30.2) ∨ qg_DO tl b x m c sr h u sp (zR_readDeed x (nI (sr + 3)) h) ((zM_playedBy (nI (m + 1 + 3 * c)) (nI sr) u).bind fun r30 => zM_clause_J117 (nI sr) (nI (m + 1 + 3 * c)) v4 r30.1 r30.2) := by
  have J117 : ∀ w, zM_clause_J117 (nI sr) (nI (m + 1 + 3 * c)) v4 (nI 0) w = zM_clause_J154 w := fun w => by
    simp (disch := omega) only [↓reduceIte, zM_clause_J117, qa_lit, qa_ltF]
  have J117f : ∀ f w, 1 ≤ f → f ≤ 6 → zM_clause_J117 (nI sr) (nI (m + 1 + 3 * c)) v4 (nI f) w = some (nI f, w) := fun f w f1 f6 => by
    simp (disch := omega) only [↓reduceIte, zM_clause_J117, qa_lit, qa_eqF]
  by_cases s7 : sr = 7
  · subst s7
    have ex : zR_readDeed x (nI (7 + 3)) h = zR_readDeed_J81 x (nI (7 + 3)) (nI 0) (nI 0) h := by
      simp (disch := omega) only [↓reduceIte, zR_readDeed, zR_readDeed_J17, qa_lit, Nat.reduceAdd, qa_eqF]
    have em : ((zM_playedBy (nI (m + 1 + 3 * c)) (nI 7) u).bind fun r30 => zM_clause_J117 (nI 7) (nI (m + 1 + 3 * c)) v4 r30.1 r30.2) = zM_clause_J154 u := by
      simp (disch := omega) only [↓reduceIte, zM_playedBy, qa_lit, Option.bind_some, J117]
    rw [ex, em]
    exact qg_semi hx hm hc S e1 e0 k13 k86 (Nat.le_refl sp) (fun _ _ => rfl) (fun _ _ _ => rfl) (fun _ _ _ _ _ => rfl) (fun _ _ _ => rfl) (fun _ q => absurd rfl q) (fun q => by omega)
  · -- the figure
    have eD : ∀ y g, zR_takeNumber (nI 5) h = some (y, g) → zR_readDeed x (nI (sr + 3)) h = zR_readDeed_J17 x (nI (sr + 3)) y (nI 0) g := fun y g q => by
      simp (disch := omega) only [↓reduceIte, zR_readDeed, qa_lit, qa_eqF, q, Option.bind_some]
    rcases qg_num S e1 (most := 5) (idx := m + 1 + 3 * c + 1) (by omega) (by omega) with ⟨f, y, f1, f6, n1, n2⟩ | ⟨y, h1, u1, sp1, nx1, T1, yl, n1, n2, S1, sp1', F1, F2, F3, F4⟩
    · left
      generalize hg : va_up h 55 (upd (upd (h 55) 1 (nI f)) 2 (nI sp)) = g at n1
      have g0 : ∀ c, c ≠ 55 → g c = h c := fun c a => by subst hg; exact qa_une _ _ a
      have g55 : g 55 = upd (upd (h 55) 1 (nI f)) 2 (nI sp) := by subst hg; exact va_up_self _ _ _
      have g1 : g 55 1 = nI f := by rw [g55, pk_un (by omega), pk_us]
      obtain ⟨q1, q2, q3⟩ := qg_flt hx (h := g) f1 f6 hc (by rw [g0 x (by omega)]; exact e0) g1
      have fin : ∃ v3 v4, zR_readDeed_J17 x (nI (sr + 3)) y (nI 0) g = zR_readDeed_J81 x (nI (sr + 3)) v3 v4 g := by
        rcases (show sr = 3 ∨ sr = 4 ∨ sr = 5 ∨ sr = 6 by omega) with q | q | q | q
        · subst q
          exact ⟨y, nI 0, by simp (disch := omega) only [↓reduceIte, zR_readDeed_J17, zR_readDeed_J35, zR_readDeed_J60, zR_readDeed_J76, qa_lit, Nat.reduceAdd, qa_eqF, q1, q2, Option.bind_some]⟩
        · subst q
          exact ⟨y, nI 0, by simp (disch := omega) only [↓reduceIte, zR_readDeed_J17, qa_lit, Nat.reduceAdd, qa_eqF]⟩
        · subst q
          exact ⟨y, nI 0, by simp (disch := omega) only [↓reduceIte, zR_readDeed_J17, zR_readDeed_J35, zR_readDeed_J60, zR_readDeed_J76, qa_lit, Nat.reduceAdd, qa_eqF, q1, q2, Option.bind_some]⟩
        · subst q
          exact ⟨y, nI 0, by simp (disch := omega) only [↓reduceIte, zR_readDeed_J17, zR_readDeed_J35, zR_readDeed_J60, zR_readDeed_J76, qa_lit, Nat.reduceAdd, qa_eqF, q1, q2, Option.bind_some]⟩
      obtain ⟨v3, v4', fin⟩ := fin
      obtain ⟨h', z1, z2, z3⟩ := q3 (nI (sr + 3)) v3 v4'
      refine ⟨f, sp, h', u, f1, f6, by rw [eD y g n1, fin, z1], by rw [z2]; exact g1, by rw [z2, g55, pk_us], fun c c1 c2 c3 c4 => by rw [z3 c c4, g0 c c1], ?_, S.2.2.1.2, fun _ _ _ _ => rfl, fun _ _ => rfl, fun _ _ => rfl⟩
      simp (disch := omega) only [↓reduceIte, zM_playedBy, qa_lit, qa_eqF, nI_add, n2, Option.bind_some, J117f]
    · have e1' : h1 55 1 = nI 0 := by rw [F1 55 (by omega)]; exact e1
      have e0' : h1 x 0 = nI c := by rw [F1 x (by omega)]; exact e0
      have k13' : u1.1 83 13 = nI m := by rw [F4 13 (by omega) (by omega) (by omega) (by omega)]; exact k13
      have k86' : u1.1 86 m = nI c := by rw [F3, pk_un (by omega)]; exact k86
      by_cases s4 : sr = 4
      · subst s4
        have ex : zR_readDeed x (nI (4 + 3)) h = zR_readDeed_J81 x (nI (4 + 3)) (nI y) (nI 0) h1 := by
          rw [eD _ _ n1]
          simp (disch := omega) only [↓reduceIte, zR_readDeed_J17, qa_lit, Nat.reduceAdd, qa_eqF]
        have em : ((zM_playedBy (nI (m + 1 + 3 * c)) (nI 4) u).bind fun r30 => zM_clause_J117 (nI 4) (nI (m + 1 + 3 * c)) v4 r30.1 r30.2) = zM_clause_J154 u1 := by
          simp (disch := omega) only [↓reduceIte, zM_playedBy, qa_lit, qa_eqF, nI_add, n2, Option.bind_some, J117]
        rw [ex, em]
        exact qg_semi hx hm hc S1 e1' e0' k13' k86' (by omega) F1 F2 F4 (fun j j1 _ => by rw [F3, pk_un j1]) (fun _ _ => ⟨yl, by rw [F3, pk_us]⟩) (fun q => by omega)
      · -- the word between
        obtain ⟨D, hD⟩ : ∃ D, D = (if sr = 3 then 11 else if sr = 5 then 18 else 33) := ⟨_, rfl⟩
        obtain ⟨mo, hmo⟩ : ∃ mo, mo = (if sr = 6 then 5 else 7) := ⟨_, rfl⟩
        have D36 : D < 36 ∧ D ≠ 35 := by rw [hD]; split <;> (try split) <;> omega
        have ex : zR_readDeed x (nI (sr + 3)) h = ((zR_takeToken (nI D) h1).bind fun r4 => zR_readDeed_J76 x (nI (sr + 3)) (nI y) (nI mo) r4) := by
          rw [eD _ _ n1]
          rcases (show sr = 3 ∨ sr = 5 ∨ sr = 6 by omega) with q | q | q
          · subst q
            rw [hD, hmo, if_pos rfl, if_neg (by decide)]
            simp (disch := omega) only [↓reduceIte, zR_readDeed_J17, zR_readDeed_J35, zR_readDeed_J60, qa_lit, Nat.reduceAdd, qa_eqF]
          · subst q
            rw [hD, hmo, if_neg (by decide), if_pos rfl, if_neg (by decide)]
            simp (disch := omega) only [↓reduceIte, zR_readDeed_J17, zR_readDeed_J35, zR_readDeed_J60, qa_lit, Nat.reduceAdd, qa_eqF]
          · subst q
            rw [hD, hmo, if_neg (by decide), if_neg (by decide), if_pos rfl]
            simp (disch := omega) only [↓reduceIte, zR_readDeed_J17, zR_readDeed_J35, zR_readDeed_J60, qa_lit, Nat.reduceAdd, qa_eqF]
        have R1 := S1.2.2.2.2.1
        have em : zM_playedBy (nI (m + 1 + 3 * c)) (nI sr) u = zM_playedBy_J87 (nI (m + 1 + 3 * c)) (nI sr) (qs_b (decide (T1 = D))) u1 := by
          have w : ∀ {j : Nat}, j < 21 → (zM_playedBy_J77 (nI (m + 1 + 3 * c)) (nI sr) (u1.2 83 12) (nI 24948) u1 = zM_playedBy_J77 (nI (m + 1 + 3 * c)) (nI sr) (u1.2 83 12) (nI 24948) u1) := fun _ => rfl
          have key : ∀ (j : Nat) (k : Int32), j < 21 → k.toInt64 = lN (qt_code j) → (if (u1.1 83 10) = nI 2 then zM_playedBy_J77 (nI (m + 1 + 3 * c)) (nI sr) (u1.2 83 12) k u1 else zM_playedBy_J86 (nI (m + 1 + 3 * c)) (nI sr) u1) = zM_playedBy_J87 (nI (m + 1 + 3 * c)) (nI sr) (qs_b (decide (T1 = j))) u1 := fun j k hj hk => by
            have g := qt_wd R1 hj
            rw [← hk] at g
            unfold zM_playedBy_J77 zM_playedBy_J86
            simp only [qa_lit]
            split at g
            · next y1 =>
              rw [if_pos y1]
              split at g
              · next y2 => rw [if_pos y2, g]
              · next y2 => rw [if_neg y2, g]
            · next y1 => rw [if_neg y1, g]
          obtain ⟨-, -, -, -, -, -, -, -, -, w11, w18⟩ := qt_W'
          rcases (show sr = 3 ∨ sr = 5 ∨ sr = 6 by omega) with q | q | q
          · subst q
            rw [hD, if_pos rfl, ← key 11 (nI 24948) (by omega) w11]
            simp (disch := omega) only [↓reduceIte, zM_playedBy, qa_lit, qa_eqF, nI_add, n2, Option.bind_some]
          · subst q
            rw [hD, if_neg (by decide), if_pos rfl, ← key 18 (nI 29807) (by omega) w18]
            simp (disch := omega) only [↓reduceIte, zM_playedBy, qa_lit, qa_eqF, nI_add, n2, Option.bind_some]
          · subst q
            rw [hD, if_neg (by decide), if_neg (by decide)]
            have i44 := qt_is R1 (j := 33) (by omega) (by omega) (k := 44) rfl
            by_cases t : T1 = 33
            · have k44 : u1.1 83 10 = nI 44 := by rw [i44]; exact t
              rw [decide_eq_true t, show qs_b true = nI 1 from rfl]
              simp (disch := omega) only [↓reduceIte, zM_playedBy, qa_lit, qa_eqF, nI_add, n2, Option.bind_some, k44]
            · have k44 : ¬ (u1.1 83 10 = nI 44) := by rw [i44]; exact t
              rw [decide_eq_false t, show qs_b false = nI 0 from rfl]
              simp (disch := omega) only [↓reduceIte, zM_playedBy, qa_lit, qa_eqF, nI_add, n2, Option.bind_some, k44]
        rw [ex, em]
        -- the class goes to its end behind a fault
        have bad : ∀ (f : Nat) (g : Nat → Nat → Int32) (y' : Int32) (p : Nat), 1 ≤ f → f ≤ 6 → g 55 1 = nI f → g 55 2 = nI p → (∀ c, c ≠ 55 → c ≠ 56 → g c = h c) → ∃ h', zR_readDeed_J81 x (nI (sr + 3)) (nI y) y' g = some h' ∧ h' 55 1 = nI f ∧ h' 55 2 = nI p ∧ (∀ c, c ≠ 55 → c ≠ 56 → c ≠ 58 → c < x ∨ x + 6 < c → h' c = h c) := fun f g y' p f1 f6 g1 g2 gf => by
          obtain ⟨q1, q2, q3⟩ := qg_flt hx (h := g) f1 f6 hc (by rw [gf x (by omega) (by omega)]; exact e0) g1
          obtain ⟨h', z1, z2, z3⟩ := q3 (nI (sr + 3)) (nI y) y'
          exact ⟨h', z1, by rw [z2]; exact g1, by rw [z2]; exact g2, fun c c1 c2 _ c4 => by rw [z3 c c4, gf c c1 c2]⟩
        by_cases tD : T1 = D
        · rw [decide_eq_true tD, show qs_b true = nI 1 from rfl]
          have spnx1 := S1.2.2.2.2.2.2.2.2 (by omega)
          obtain ⟨h2, u2, sp2, nx2, T2, d1, d2, d3, d4, d5⟩ := qt_go S1
          have e3 := S1.2.2.2.1.1
          rw [tD] at e3
          have tk : zR_takeToken (nI D) h1 = some h2 := by
            simp (disch := omega) only [↓reduceIte, zR_takeToken, e1', e3, qa_lit, d1, Option.bind_some]
          rw [tk, Option.bind_some]
          have mE : zM_playedBy_J87 (nI (m + 1 + 3 * c)) (nI sr) (nI 1) u1 = ((zM_figure0 (nI (m + 1 + 3 * c + 2)) (nI mo) u2).bind fun r10 => some ((r10.1, r10.2))) := by
            by_cases q : sr = 6
            · rw [hmo, if_pos q, q]
              simp (disch := omega) only [↓reduceIte, zM_playedBy_J87, zM_playedBy_J116, qa_lit, qa_eqF, d2, Option.bind_some, nI_add]
            · rw [hmo, if_neg q]
              simp (disch := omega) only [↓reduceIte, zM_playedBy_J87, zM_playedBy_J116, qa_lit, qa_eqF, d2, Option.bind_some, nI_add]
          rw [mE]
          have e1'' : h2 55 1 = nI 0 := by rw [d5.1 55 (by omega)]; exact e1'
          have e0'' : h2 x 0 = nI c := by rw [d5.1 x (by omega)]; exact e0'
          rcases qg_num d3 e1'' (most := mo) (idx := m + 1 + 3 * c + 2) (by rw [hmo]; split <;> omega) (by omega) with ⟨f, y', f1, f6, n1', n2'⟩ | ⟨y', h3, u3, sp3, nx3, T3, yl', n1', n2', S3, sp3', F1', F2', F3', F4'⟩
          · left
            obtain ⟨h', z1, z2, z3, z4⟩ := bad f (va_up h2 55 (upd (upd (h2 55) 1 (nI f)) 2 (nI sp2))) y' sp2 f1 f6 (by rw [va_up_self, pk_un (by omega), pk_us]) (by rw [va_up_self, pk_us]) (fun c c1 c2 => by rw [qa_une _ _ c1, d5.1 c c2, F1 c c2])
            refine ⟨f, sp2, h', u2, f1, f6, ?_, z2, z3, z4, ?_, d3.2.2.1.2, fun c c1 c2 c3 => by rw [d5.2.1 c c1, F2 c c1 c2], fun j hj => by rw [d5.2.2 j (by omega) (by omega) (by omega) (by omega), F4 j (by omega) (by omega) (by omega) (by omega)], fun j hj => by rw [d5.2.1 86 (by omega), F3, pk_un (by omega)]⟩
            · simp only [zR_readDeed_J76, n1', Option.bind_some]
              exact z1
            · rw [n2', Option.bind_some, Option.bind_some]
              exact J117f f u2 f1 f6
          · have k13'' : u3.1 83 13 = nI m := by rw [F4' 13 (by omega) (by omega) (by omega) (by omega), d5.2.2 13 (by omega) (by omega) (by omega) (by omega)]; exact k13'
            have k86'' : u3.1 86 m = nI c := by rw [F3', pk_un (by omega), d5.2.1 86 (by omega)]; exact k86'
            have fin := qg_semi (sr := sr) (y1 := y) (y2 := y') (sp0 := sp) (h0 := h) (u0 := u) hx hm hc S3 (by rw [F1' 55 (by omega)]; exact e1'') (by rw [F1' x (by omega)]; exact e0'') k13'' k86'' (by omega) (fun c hc => by rw [F1' c hc, d5.1 c hc, F1 c hc]) (fun c c1 c2 => by rw [F2' c c1 c2, d5.2.1 c c1, F2 c c1 c2]) (fun j j1 j2 j3 j4 => by rw [F4' j j1 j2 j3 j4, d5.2.2 j j1 j2 j3 j4, F4 j j1 j2 j3 j4]) (fun j j1 j2 => by rw [F3', pk_un j2, d5.2.1 86 (by omega), F3, pk_un j1]) (fun _ _ => ⟨yl, by rw [F3', pk_un (by omega), d5.2.1 86 (by omega), F3, pk_us]⟩) (fun _ => ⟨by rw [hmo] at yl'; split at yl' <;> omega, by rw [F3', pk_us]⟩)
            have ex2 : zR_readDeed_J76 x (nI (sr + 3)) (nI y) (nI mo) h2 = zR_readDeed_J81 x (nI (sr + 3)) (nI y) (nI y') h3 := by
              simp only [zR_readDeed_J76, n1', Option.bind_some]
            rw [ex2, n2', Option.bind_some, Option.bind_some]
            rw [← J117 u3] at fin
            exact fin
        · left
          rw [decide_eq_false tD, show qs_b false = nI 0 from rfl]
          have tk := qg_tok S1 e1' D36.1 tD
          rw [tk, Option.bind_some]
          have g1 : (va_up h1 55 (upd (upd (h1 55) 1 (nI 1)) 2 (nI sp1))) 55 1 = nI 1 := by rw [va_up_self, pk_un (by omega), pk_us]
          obtain ⟨q1, q2, q3⟩ := qg_flt hx (h := va_up h1 55 (upd (upd (h1 55) 1 (nI 1)) 2 (nI sp1))) (f := 1) (by omega) (by omega) hc (by rw [qa_une _ _ (by omega)]; exact e0') g1
          obtain ⟨h', z1, z2, z3, z4⟩ := bad 1 _ (nI 0) sp1 (by omega) (by omega) g1 (by rw [va_up_self, pk_us]) (fun c c1 c2 => by rw [qa_une _ _ c1, F1 c c2])
          refine ⟨1, sp1, h', u1, by omega, by omega, ?_, z2, z3, z4, ?_, S1.2.2.1.2, fun c c1 c2 _ => F2 c c1 c2, fun j hj => F4 j (by omega) (by omega) (by omega) (by omega), fun j hj => by rw [F3, pk_un (by omega)]⟩
          · simp only [zR_readDeed_J76, q2, Option.bind_some]
            exact z1
          · simp (disch := omega) only [↓reduceIte, zM_playedBy_J87, qa_lit, Option.bind_some]
            exact J117f 1 u1 (by omega) (by omega)
end
