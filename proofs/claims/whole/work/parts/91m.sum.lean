/-! THE HEART: the reader: a sum, both -/
def qg_XC (x : Nat) (h0 : Nat → Nat → Int32) (r : Option (Nat → Nat → Int32)) (f p : Nat) : Prop := ∃ h', r = some h' ∧ h' 55 1 = nI f ∧ h' 55 2 = nI p ∧ (∀ c, c ≠ 55 → c ≠ 56 → c ≠ 58 → c < x ∨ x + 6 < c → h' c = h0 c)
def qg_XM (m : Nat) (u0 : zHM) (r : Option (Int32 × zHM)) (f p : Nat) : Prop := ∃ u', r = some (nI f, u') ∧ u'.1 83 9 = nI p ∧ qg_FU m u0 u'
section
variable {x s : Nat}
/-- a fault ends the class's loop -/
theorem qg_out (hx : x ≤ 41) (hs : s < 3) {h1 : Nat → Nat → Int32} {f c : Nat} (hf : 1 ≤ f) (hf6 : f ≤ 6) (hc : c < 50) (e1 : h1 55 1 = nI f) (e0 : h1 x 0 = nI c) (n v3 v4 : Nat) (hv : v4 ≤ 1000) : ∃ h', zR_readLaw_L36 (n + 1) x (nI (s + 3)) (nI v3) (nI v4) h1 = some h' ∧ h' 55 = h1 55 ∧ (∀ c, c < x ∨ x + 6 < c → h' c = h1 c) := by
  have es : nI (s + 3) - nI 3 = nI s := by rw [qa_sub (by omega), Nat.add_sub_cancel]
  have J : ∃ h', zR_readLaw_J138 x (nI (s + 3)) h1 = some h' ∧ h' 55 = h1 55 ∧ (∀ c, c < x ∨ x + 6 < c → h' c = h1 c) := by
    refine ⟨va_up (va_up (va_up (va_up (va_up h1 (x + 6) (upd (h1 (x + 6)) s (h1 x 4))) (x + 1) (upd (h1 (x + 1)) c (nI (s + 3)))) (x + 2) (upd (h1 (x + 2)) c (nI 0))) (x + 3) (upd (h1 (x + 3)) c (nI 0))) x (upd (h1 x) 0 (nI (c + 1))), ?_, ?_, fun c hc => ?_⟩
    · simp (disch := omega) only [↓reduceIte, ↓qa_b, zR_readLaw_J138, zX_addClause, es, qa_lit, qa_ix, qa_cl, qa_une, e0, qa_ltT, nI_add, Option.bind_some]
    · simp (disch := omega) only [qa_une]
    · simp (disch := omega) only [qa_une]
  obtain ⟨h', j1, j2, j3⟩ := J
  refine ⟨h', ?_, j2, j3⟩
  rw [← j1]
  by_cases q : 300 < v4
  · simp (disch := omega) only [↓reduceIte, zR_readLaw_L36, qa_lit, qa_ltT]
  · simp (disch := omega) only [↓reduceIte, zR_readLaw_L36, qa_lit, qa_ltF, e1, qa_eqF]
end
section
variable {tl : Nat} {b : Nat → Nat} {x m s : Nat} {ds0 : List (Nat × Nat)} {base : List Nat} {k t : Nat} {cm : Bool} {h : Nat → Nat → Int32} {u : zHM} {sp nx T : Nat} {lw : List (Nat × Nat)} {pl : List Nat} {op : Nat} {aa : Bool}
/-- where no operator is due that stands there -/
theorem qg_ref1 {ds : List (Nat × Nat)} {ws : List Nat} {br : Nat} (S : qt_S tl b h u sp nx T) (C : qg_C x h ds ws op br true cm aa) (hb : br ≤ 100) (n1 : ¬ (27 ≤ T ∧ T ≤ 30)) (n2 : ¬ (T = 32 ∧ 0 < br)) (n3 : ¬ (21 ≤ T ∧ T ≤ 26 ∧ br = 0 ∧ cm = false)) (n4 : ¬ ((T = 0 ∨ T = 1 ∨ T = 34) ∧ br = 0 ∧ cm = true)) : zR_takeOperator x h = some (va_up h 55 (upd (upd (h 55) 1 (nI 1)) 2 (nI sp))) := by
  obtain ⟨⟨c1, c2⟩, ⟨c3, c4⟩, c5, c6, c7, c8, c9, c10⟩ := id C
  have e3 := S.2.2.2.1.1
  have e4 := S.2.2.1.1
  have t37 := S.2.2.2.1.2
  have J194 : zR_takeOperator_J194 h = some (va_up h 55 (upd (upd (h 55) 1 (nI 1)) 2 (nI sp))) := by
    simp (disch := omega) only [↓qa_b, zR_takeOperator_J194, zR_refuse, qa_lit, qa_une, e4, va_up_self, qa_up2]
  rw [← J194]
  have b0 : 0 < br ∨ br = 0 := by omega
  by_cases t1 : T = 0 ∨ T = 1 ∨ T = 34
  · have key : zR_takeOperator x h = zR_takeOperator_J155 x (nI T) (nI 1) h := by
      rcases t1 with q | q | q
      · subst q
        simp (disch := omega) only [↓reduceIte, ↓qa_b, zR_takeOperator, zR_takeOperator_J23, zR_takeOperator_J28, zR_takeOperator_J45, zR_takeOperator_J46, zR_takeOperator_J64, zR_takeOperator_J65, zR_takeOperator_J88, e3, qa_lit, qa_eqF, qa_ltT]
      · subst q
        simp (disch := omega) only [↓reduceIte, ↓qa_b, zR_takeOperator, zR_takeOperator_J23, zR_takeOperator_J28, zR_takeOperator_J45, zR_takeOperator_J46, zR_takeOperator_J64, zR_takeOperator_J65, zR_takeOperator_J88, e3, qa_lit, qa_eqF, qa_ltT]
      · subst q
        simp (disch := omega) only [↓reduceIte, ↓qa_b, zR_takeOperator, zR_takeOperator_J23, zR_takeOperator_J28, zR_takeOperator_J45, zR_takeOperator_J46, zR_takeOperator_J64, zR_takeOperator_J65, zR_takeOperator_J88, e3, qa_lit, qa_eqF, qa_ltT, qa_ltF]
    rw [key]
    rcases b0 with q | q
    · simp (disch := omega) only [↓reduceIte, zR_takeOperator_J155, qa_lit, qa_eqF, c6]
    · have cf : cm = false := by
        cases cm
        · rfl
        · exact absurd ⟨t1, q, rfl⟩ n4
      rw [cf] at c8
      have c8' : h 55 8 = nI 0 := c8
      rw [q] at c6
      simp (disch := omega) only [↓reduceIte, zR_takeOperator_J155, qa_lit, qa_eqF, c6, c8']
  · have t0 : T ≠ 0 := fun q => t1 (Or.inl q)
    have t1' : T ≠ 1 := fun q => t1 (Or.inr (Or.inl q))
    have t34 : T ≠ 34 := fun q => t1 (Or.inr (Or.inr q))
    by_cases t2 : T < 21
    · simp (disch := omega) only [↓reduceIte, ↓qa_b, zR_takeOperator, zR_takeOperator_J28, zR_takeOperator_J45, zR_takeOperator_J46, zR_takeOperator_J64, zR_takeOperator_J65, zR_takeOperator_J88, zR_takeOperator_J155, e3, qa_lit, qa_eqF, qa_ltT]
    · by_cases t3 : T ≤ 26
      · rcases b0 with q | q
        · simp (disch := omega) only [↓reduceIte, ↓qa_b, zR_takeOperator, zR_takeOperator_J28, zR_takeOperator_J46, zR_takeOperator_J64, zR_takeOperator_J65, zR_takeOperator_J88, zR_takeOperator_J155, e3, qa_lit, qa_eqF, qa_ltT, qa_ltF, c6]
        · have cf : cm = true := by
            cases cm
            · exact absurd ⟨by omega, t3, q, rfl⟩ n3
            · rfl
          rw [cf] at c8
          have c8' : h 55 8 = nI 1 := c8
          rw [q] at c6
          simp (disch := omega) only [↓reduceIte, ↓qa_b, zR_takeOperator, zR_takeOperator_J28, zR_takeOperator_J46, zR_takeOperator_J64, zR_takeOperator_J65, zR_takeOperator_J88, zR_takeOperator_J155, e3, qa_lit, qa_eqF, qa_ltT, qa_ltF, c6, c8']
      · by_cases t4 : T = 32
        · have q : br = 0 := by
            rcases b0 with q | q
            · exact absurd ⟨t4, q⟩ n2
            · exact q
          rw [q] at c6
          subst t4
          simp (disch := omega) only [↓reduceIte, ↓qa_b, zR_takeOperator, zR_takeOperator_J28, zR_takeOperator_J45, zR_takeOperator_J46, zR_takeOperator_J64, zR_takeOperator_J65, zR_takeOperator_J88, zR_takeOperator_J155, e3, qa_lit, qa_eqF, qa_ltT, qa_ltF, c6]
        · simp (disch := omega) only [↓reduceIte, ↓qa_b, zR_takeOperator, zR_takeOperator_J28, zR_takeOperator_J45, zR_takeOperator_J46, zR_takeOperator_J64, zR_takeOperator_J65, zR_takeOperator_J88, zR_takeOperator_J155, e3, qa_lit, qa_eqF, qa_ltT, qa_ltF]
/-- and the loop ends there -/
theorem qg_bad (hx : x ≤ 41) (hs : s < 3) {ds : List (Nat × Nat)} {ws : List Nat} {br c : Nat} {h0 : Nat → Nat → Int32} (S : qt_S tl b h u sp nx T) (C : qg_C x h ds ws op br true cm aa) (hb : br ≤ 100) (hw : ws.length ≤ 64) (hk : ∀ t', ws.head? = some t' → t' < 39 ∧ qg_rk t' < 7) (n1 : ¬ (27 ≤ T ∧ T ≤ 30)) (n2 : ¬ (T = 32 ∧ 0 < br)) (n3 : ¬ (21 ≤ T ∧ T ≤ 26 ∧ br = 0 ∧ cm = false)) (n4 : ¬ ((T = 0 ∨ T = 1 ∨ T = 34) ∧ br = 0 ∧ cm = true)) (hc : c < 50) (e0 : h0 x 0 = nI c) (F : qg_FH x h0 h) {n v4 : Nat} (hn : 1 ≤ n) (hv : v4 ≤ 300) : qg_XC x h0 (zR_readLaw_L36 (n + 1) x (nI (s + 3)) (nI 0) (nI v4) h) 1 sp := by
  have r1 := qg_ref1 S C hb n1 n2 n3 n4
  obtain ⟨⟨c1, c2⟩, ⟨c3, c4⟩, c5, c6, c7, c8, c9, c10⟩ := id C
  have c7' : h 55 7 = nI 1 := c7
  have e3 := S.2.2.2.1.1
  have t37 := S.2.2.2.1.2
  generalize hg : va_up h 55 (upd (upd (h 55) 1 (nI 1)) 2 (nI sp)) = g at r1
  have g0 : ∀ c, c ≠ 55 → g c = h c := fun c a => by subst hg; exact qa_une _ _ a
  have g55 : g 55 = upd (upd (h 55) 1 (nI 1)) 2 (nI sp) := by subst hg; exact va_up_self _ _ _
  have g1 : g 55 1 = nI 1 := by rw [g55, pk_un (by omega), pk_us]
  have g2 : g 55 2 = nI sp := by rw [g55, pk_us]
  have g4 : g 55 4 = nI ws.length := by rw [g55, pk_un (by omega), pk_un (by omega)]; exact c3
  have g7 : g 55 7 = nI 1 := by rw [g55, pk_un (by omega), pk_un (by omega)]; exact c7'
  have st7 : zR_settle x (nI 7) g = some g := by
    have key : ∀ n, zR_settle_L0 (n + 1) x (nI 7) g = some g := fun n => by
      cases ws with
      | nil =>
        rw [List.length_nil] at g4
        simp (disch := omega) only [↓reduceIte, zR_settle_L0, g4, qa_lit, qa_ltF]
      | cons a l =>
        rw [List.length_cons] at g4
        obtain ⟨h39, hr⟩ := hk a rfl
        have rk := (qg_rkH a h39).1
        have top : g 58 l.length = nI a := by rw [g0 58 (by omega)]; exact c4.1
        have e1 : nI (l.length + 1) - nI 1 = nI l.length := by rw [qa_sub (by omega), Nat.add_sub_cancel]
        rw [List.length_cons] at hw
        simp (disch := omega) only [↓reduceIte, ↓qa_b, zR_settle_L0, g4, qa_lit, qa_ltT, e1, qa_ix, qa_cl, top, rk]
    exact key 999999
  obtain ⟨n', hn'⟩ : ∃ n', n = n' + 1 := ⟨n - 1, by omega⟩
  obtain ⟨v3, hv3⟩ : ∃ v3, v3 = (if T = 34 then 1 else 0) := ⟨_, rfl⟩
  obtain ⟨h', y1, y2, y3⟩ := qg_out hx hs (h1 := g) (f := 1) (c := c) (by omega) (by omega) hc g1 (by rw [g0 x (by omega), F.2.1 0 (by omega)]; exact e0) n' v3 (v4 + 1) (by omega)
  rw [← hn'] at y1
  have rk38 := (qg_rkH 38 (by omega)).1
  rw [show qg_rk 38 = 7 from rfl] at rk38
  refine ⟨h', ?_, by rw [y2]; exact g1, by rw [y2]; exact g2, fun c q1 q2 q3 q4 => by rw [y3 c q4, g0 c q1, F.1 c q1 q2 q3 (by omega) (by omega)]⟩
  rw [← y1]
  have c10' := c10
  by_cases q : T = 34
  · rw [hv3, if_pos q]
    rw [q] at e3
    simp (disch := omega) only [↓reduceIte, zR_readLaw_L36.eq_2, zR_readLaw_J79, qa_lit, qa_ltF, c10', c7', qa_eqF, e3, r1, Option.bind_some]
    simp (disch := omega) only [↓reduceIte, ↓qa_b, zR_readLaw_J101, zR_readLaw_J118, g7, g1, qa_lit, qa_eqF, rk38, st7, Option.bind_some, nI_add]
  · rw [hv3, if_neg q]
    simp (disch := omega) only [↓reduceIte, zR_readLaw_L36.eq_2, zR_readLaw_J78, zR_readLaw_J79, qa_lit, qa_ltF, c10', c7', qa_eqF, e3, r1, Option.bind_some]
    simp (disch := omega) only [↓reduceIte, ↓qa_b, zR_readLaw_J101, zR_readLaw_J118, g7, g1, qa_lit, qa_eqF, rk38, st7, Option.bind_some, nI_add]
/-- an operand that can't be: the loop ends there -/
theorem qg_badO (hx : x ≤ 41) (hs : s < 3) {ds : List (Nat × Nat)} {ws : List Nat} {br c f : Nat} {h0 : Nat → Nat → Int32} {g : Nat → Int32} (hf : 1 ≤ f) (hf6 : f ≤ 6) (C : qg_C x h ds ws op br false cm aa) (r1 : zR_takeOperand x (nI (s + 3)) h = some (va_up h 55 g)) (g1 : g 1 = nI f) (g2 : g 2 = nI sp) (g7 : g 7 = nI 0) (hc : c < 50) (e0 : h0 x 0 = nI c) (F : qg_FH x h0 h) {n v4 : Nat} (hn : 1 ≤ n) (hv : v4 ≤ 300) : qg_XC x h0 (zR_readLaw_L36 (n + 1) x (nI (s + 3)) (nI 0) (nI v4) h) f sp := by
  obtain ⟨⟨c1, c2⟩, ⟨c3, c4⟩, c5, c6, c7, c8, c9, c10⟩ := id C
  have c7' : h 55 7 = nI 0 := c7
  generalize hG : va_up h 55 g = G at r1
  have G0 : ∀ c, c ≠ 55 → G c = h c := fun c a => by subst hG; exact qa_une _ _ a
  have G55 : G 55 = g := by subst hG; exact va_up_self _ _ _
  rw [← G55] at g1 g2 g7
  obtain ⟨n', hn'⟩ : ∃ n', n = n' + 1 := ⟨n - 1, by omega⟩
  obtain ⟨h', y1, y2, y3⟩ := qg_out hx hs (h1 := G) (f := f) (c := c) hf hf6 hc g1 (by rw [G0 x (by omega), F.2.1 0 (by omega)]; exact e0) n' 0 (v4 + 1) (by omega)
  rw [← hn'] at y1
  refine ⟨h', ?_, by rw [y2]; exact g1, by rw [y2]; exact g2, fun c q1 q2 q3 q4 => by rw [y3 c q4, G0 c q1, F.1 c q1 q2 q3 (by omega) (by omega)]⟩
  rw [← y1]
  simp (disch := omega) only [↓reduceIte, zR_readLaw_L36.eq_2, zR_readLaw_J78, zR_readLaw_J79, qa_lit, qa_ltF, c10, c7', r1, Option.bind_some]
  simp (disch := omega) only [↓reduceIte, zR_readLaw_J101, zR_readLaw_J118, g7, g1, qa_lit, qa_eqF, nI_add]
/-- a sum: both find the same fault, or come to its end -/
theorem qg_sum (hx : x ≤ 41) (hm : m ≤ 2370) (hs : s < 3) (ht2 : t ≤ 2) (hB : qg_B base k) {h0 : Nat → Nat → Int32} {u0 : zHM} {c : Nat} (hc : c < 50) (e0 : h0 x 0 = nI c) : ∀ (N n n' v4 : Nat) (h : Nat → Nat → Int32) (u : zHM) (sp nx T : Nat) (lw : List (Nat × Nat)) (pl : List Nat) (op : Nat) (bo aa : Bool), tl - sp ≤ N → N + 1 < n → N < n' → v4 ≤ sp → qg_Z tl b x m s ds0 base k t cm h u sp nx T lw pl op bo aa → (aa = true → bo = false ∧ T ≠ 2) → qg_FH x h0 h → qg_FU m u0 u →
    (∃ f p, 1 ≤ f ∧ f ≤ 6 ∧ qg_XC x h0 (zR_readLaw_L36 n x (nI (s + 3)) (nI 0) (nI v4) h) f p ∧ qg_XM m u0 (zM_summed_L10 n' u) f p) ∨
    (∃ n2 v4' h' ub u' sp' nx' T' lw' seg op', zR_readLaw_L36 n x (nI (s + 3)) (nI 0) (nI v4) h = zR_readLaw_L36 n2 x (nI (s + 3)) (nI 0) (nI v4') h' ∧ zM_summed_L10 n' u = some (nI 0, u') ∧ qg_Z tl b x m s ds0 base k t cm h' ub sp' nx' T' lw' seg op' true false ∧ (∀ e ∈ seg, 3 ≤ e ∧ e ≤ 6) ∧ ¬ (27 ≤ T' ∧ T' ≤ 30) ∧ qg_M m u' (qg_em seg lw' ++ ds0) [] op' true ∧ qg_fu m ub u' ∧ qg_FH x h0 h' ∧ qg_FU m u0 ub ∧ tl - sp' + 1 < n2 ∧ v4' ≤ sp' ∧ sp ≤ sp') := by
  intro N
  induction N using Nat.strongRecOn with
  | _ N IH =>
    intro n n' v4 h u sp nx T lw pl op bo aa hN hn hn' hv Z ha FH FU
    obtain ⟨L1, L2, L3, L4, L5, L6, L7⟩ := qg_Z_len Z hB
    have L8 : pl.length ≤ (pl.map qg_t ++ base).length := by rw [List.length_append, List.length_map]; omega
    have S := Z.1
    have C := Z.2.1
    have M := Z.2.2.1
    have spl : sp ≤ nx ∧ nx ≤ tl ∧ tl ≤ 300 := ⟨S.2.2.2.2.2.2.1, S.2.2.2.2.2.2.2.1, S.1.2.2.1⟩
    have m20 := M.2.2.2
    have c10 := C.2.2.2.2.2.2.2
    have c7 := C.2.2.2.2.1
    have e3 := S.2.2.2.1.1
    have t37 := S.2.2.2.1.2
    obtain ⟨n1, hn1⟩ : ∃ n1, n = n1 + 1 := ⟨n - 1, by omega⟩
    obtain ⟨n1', hn1'⟩ : ∃ n1, n' = n1 + 1 := ⟨n' - 1, by omega⟩
    subst hn1
    subst hn1'
    have next : ∀ h2 u2 sp' nx' T' lw' pl' op' bo' aa', sp < sp' → qg_Z tl b x m s ds0 base k t cm h2 u2 sp' nx' T' lw' pl' op' bo' aa' → (aa' = true → bo' = false ∧ T' ≠ 2) → qg_FH x h h2 → qg_FU m u u2 → zR_readLaw_L36 (n1 + 1) x (nI (s + 3)) (nI 0) (nI v4) h = zR_readLaw_L36 n1 x (nI (s + 3)) (nI 0) (nI (v4 + 1)) h2 → zM_summed_L10 (n1' + 1) u = zM_summed_L10 n1' u2 → (∃ f p, 1 ≤ f ∧ f ≤ 6 ∧ qg_XC x h0 (zR_readLaw_L36 (n1 + 1) x (nI (s + 3)) (nI 0) (nI v4) h) f p ∧ qg_XM m u0 (zM_summed_L10 (n1' + 1) u) f p) ∨
    (∃ n2 v4' h' ub u' sp' nx' T' lw' seg op', zR_readLaw_L36 (n1 + 1) x (nI (s + 3)) (nI 0) (nI v4) h = zR_readLaw_L36 n2 x (nI (s + 3)) (nI 0) (nI v4') h' ∧ zM_summed_L10 (n1' + 1) u = some (nI 0, u') ∧ qg_Z tl b x m s ds0 base k t cm h' ub sp' nx' T' lw' seg op' true false ∧ (∀ e ∈ seg, 3 ≤ e ∧ e ≤ 6) ∧ ¬ (27 ≤ T' ∧ T' ≤ 30) ∧ qg_M m u' (qg_em seg lw' ++ ds0) [] op' true ∧ qg_fu m ub u' ∧ qg_FH x h0 h' ∧ qg_FU m u0 ub ∧ tl - sp' + 1 < n2 ∧ v4' ≤ sp' ∧ sp ≤ sp') := fun h2 u2 sp' nx' T' lw' pl' op' bo' aa' q1 q2 q3 q4 q5 q6 q7 => by
      have spl' : sp' ≤ nx' ∧ nx' ≤ tl := ⟨q2.1.2.2.2.2.2.2.1, q2.1.2.2.2.2.2.2.2.1⟩
      rw [q6, q7]
      have ih := IH (N - 1) (by omega) n1 n1' (v4 + 1) h2 u2 sp' nx' T' lw' pl' op' bo' aa' (by omega) (by omega) (by omega) (by omega) q2 q3 (FH.tr q4) (FU.tr q5)
      rcases ih with ih | ⟨n2, v4', h', ub, u', sp2, nx2, T2, lw2, seg, op2, r1, r2, r3, r4, r5, r6, r7, r8, r9, r10, r11, r12⟩
      · exact Or.inl ih
      · exact Or.inr ⟨n2, v4', h', ub, u', sp2, nx2, T2, lw2, seg, op2, r1, r2, r3, r4, r5, r6, r7, r8, r9, r10, r11, by omega⟩
    cases bo
    · -- an operand
      have c7' : h 55 7 = nI 0 := c7
      have m20' : u.1 83 20 = nI 0 := m20
      have l36 : zR_readLaw_L36 (n1 + 1) x (nI (s + 3)) (nI 0) (nI v4) h = (zR_takeOperand x (nI (s + 3)) h).bind fun r15 => zR_readLaw_J101 (fun v1 v2 v3 v4 h => zR_readLaw_L36 n1 v1 v2 v3 v4 h) x (nI (s + 3)) (nI 0) (nI v4) r15 := by
        simp (disch := omega) only [↓reduceIte, zR_readLaw_L36.eq_2, zR_readLaw_J78, zR_readLaw_J79, qa_lit, qa_ltF, c10, c7']
      have s10 : zM_summed_L10 (n1' + 1) u = (zM_beginOne u).bind fun r5 => zM_summed_J42 (fun w => zM_summed_L10 n1' w) r5.1 r5.2 := by
        simp (disch := omega) only [↓reduceIte, zM_summed_L10.eq_2, zM_summed_J24, qa_lit, m20']
      rcases qg_opd hx hm hs ht2 hB Z (fun q => (ha q).2) with ⟨f, g, f1, f6, g1, g2, g3, g4, g5⟩ | ⟨h1, h2, u2, sp', nx', T', lw', pl', op', bo', r1, r2, r3, r4, r5, r6, r7⟩
      · left
        refine ⟨f, sp, f1, f6, qg_badO hx hs f1 f6 C g1 g2 g3 g4 hc e0 FH (by omega) (by omega), u, ?_, S.2.2.1.2, FU⟩
        rw [s10, g5]
        simp (disch := omega) only [↓reduceIte, Option.bind_some, zM_summed_J42, qa_lit, qa_eqF]
      · refine next h2 u2 sp' nx' T' lw' pl' op' bo' false r5 r4 (fun q => by cases q) r6 r7 ?_ ?_
        · rw [l36, r1, Option.bind_some, r2, show nI v4 + 1 = nI (v4 + 1) from nI_add v4 1]
        · rw [s10, r3]
          simp (disch := omega) only [↓reduceIte, Option.bind_some, zM_summed_J42, qa_lit]
    · -- behind a ONE
      have aF : aa = false := by
        cases aa
        · rfl
        · exact absurd (ha rfl).1 (by decide)
      subst aF
      have c7' : h 55 7 = nI 1 := c7
      have m20' : u.1 83 20 = nI 1 := m20
      rcases qg_opr hx hm hB Z with ⟨go, h1, h2, u2, sp', nx', T', lw', pl', op', bo', r1, r2, r3, r4, r5, r6, r7⟩ | ⟨go, t1, t2⟩
      · have n34 : T ≠ 34 := fun q => by
          have : zR_takeOperator x h = some h1 := r1
          have gg := qg_goes Z hB
          rw [go] at gg
          rw [q] at gg
          rw [show (decide (27 ≤ 34) && decide (34 ≤ 30) || decide (34 = 32) && decide (40 ∈ pl)) = false from rfl] at gg
          exact absurd (Option.some.inj gg) (by decide)
        refine next h2 u2 sp' nx' T' lw' pl' op' bo' false r5 r4 (fun q => by cases q) r6 r7 ?_ ?_
        · have l36 : zR_readLaw_L36 (n1 + 1) x (nI (s + 3)) (nI 0) (nI v4) h = (zR_takeOperator x h).bind fun r15 => zR_readLaw_J101 (fun v1 v2 v3 v4 h => zR_readLaw_L36 n1 v1 v2 v3 v4 h) x (nI (s + 3)) (nI 0) (nI v4) r15 := by
            simp (disch := omega) only [↓reduceIte, zR_readLaw_L36.eq_2, zR_readLaw_J78, zR_readLaw_J79, qa_lit, qa_ltF, c10, c7', qa_eqF, e3]
          rw [l36, r1, Option.bind_some, r2, show nI v4 + 1 = nI (v4 + 1) from nI_add v4 1]
        · simp (disch := omega) only [↓reduceIte, zM_summed_L10.eq_2, zM_summed_J24, zM_summed_J42, qa_lit, m20', qa_eqF, go, Option.bind_some, r3]
      · have G := Z.2.2.2.1.1
        rw [if_pos rfl] at G
        obtain ⟨seg, rest, e1, b1, rr⟩ := qg_seg G
        obtain ⟨u1, a1, a2, a3⟩ := qg_setM (op := op) (bo := true) (v := 3) hm (by omega) pl am_N u (lw ++ ds0) (Nat.lt_of_le_of_lt L1 (by decide)) (by omega) (by omega) L5 M
        have a1' : zM_settle (nI 3) u = some u1 := a1
        have stE : qg_st 3 pl (lw ++ ds0) = (rest, qg_em seg lw ++ ds0) := by
          rw [e1, qg_st_app seg _ (fun e' he' => by have := b1 e' he'; omega), qg_em_app, qg_st_no]
          intro e' he'
          rcases rr with rr | ⟨l, rr, -⟩
          · rw [rr] at he'; cases he'
          · rw [rr] at he'
            rw [← Option.some.inj he']
            omega
        rw [stE] at a2
        have m18 := a2.2.1.1
        simp only at m18
        rcases rr with rr | ⟨l, rr, -⟩
        · right
          rw [rr] at a2 m18
          rw [List.length_nil] at m18
          have esg : pl = seg := by rw [e1, rr, List.append_nil]
          subst esg
          refine ⟨n1 + 1, v4, h, u, u1, sp, nx, T, lw, pl, op, rfl, ?_, Z, b1, t1, a2, a3, FH, FU, by omega, hv, Nat.le_refl _⟩
          simp (disch := omega) only [↓reduceIte, zM_summed_L10.eq_2, qa_lit, m20', qa_eqF, go, Option.bind_some, a1', m18, qa_ltF]
        · left
          have br : 0 < qg_br pl := by
            rw [e1, rr, qg_br_app, qg_br_c, if_pos rfl]
            omega
          have m40 : 40 ∈ pl := by rw [e1, rr]; exact List.mem_append_right _ List.mem_cons_self
          rw [rr] at m18
          rw [List.length_cons] at m18
          refine ⟨1, sp, by omega, by omega, qg_bad hx hs S C (by omega) (by omega) (fun t' ht' => ?_) t1 (fun q => t2 ⟨q.1, m40⟩) (fun q => by omega) (fun q => by omega) hc e0 FH (by omega) (by omega), u1, ?_, by rw [a3.2.1 9 (by omega) (by omega) (by omega) (by omega)]; exact S.2.2.1.2, FU.tr a3.F⟩
          · have tw := L3 t' (List.mem_of_mem_head? ht')
            refine ⟨qg_w39 tw, ?_⟩
            cases hpl : pl with
            | nil => rw [hpl] at m40; cases m40
            | cons e l' =>
              rw [hpl, List.map_cons, List.cons_append, List.head?_cons] at ht'
              rw [hpl] at G
              rw [← Option.some.inj ht']
              rcases G with ⟨x1, x2, x3⟩ | ⟨x1, x2, x3⟩ | ⟨x1, x2, x3⟩ | ⟨x1, x3⟩
              · omega
              · rcases x1 with x1 | x1 <;> rw [x1] <;> decide
              · rcases x1 with x1 | x1 <;> rw [x1] <;> decide
              · rw [x1]; decide
          · have ll : l.length ≤ 26 := by rw [e1, rr, List.length_append, List.length_cons] at L1; omega
            simp (disch := omega) only [↓reduceIte, zM_summed_L10.eq_2, qa_lit, m20', qa_eqF, go, Option.bind_some, a1', m18, qa_ltT]
end
