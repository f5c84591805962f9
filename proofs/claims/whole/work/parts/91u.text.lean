/-! THE HEART: text -/
section
variable {tl : Nat} {b : Nat → Nat} {x m : Nat}
theorem qg_read (hx : x ≤ 41) (hm : m ≤ 2370) : ∀ (N n n' c : Nat) (h : Nat → Nat → Int32) (u : zHM) (sp nx T : Nat) (ds : List (Nat × Nat)) (lb : Nat), tl - sp ≤ N → N + 1 < n → N < n' → qg_TS tl b x m h u sp nx T c ds lb →
    (∃ f p h' u', 1 ≤ f ∧ f ≤ 6 ∧ zR_read_L23 n x (nI c) h = some h' ∧ h' 55 1 = nI f ∧ h' 55 2 = nI p ∧ qg_VH x h h' ∧ zM_readText_L48 n' u = some (nI f, u') ∧ u'.1 83 9 = nI p ∧ qg_VU m u u') ∨
    (∃ h' u' sp' nx' c' ds' lb', zR_read_L23 n x (nI c) h = some h' ∧ zM_readText_L48 n' u = some (nI 0, u') ∧ qg_TS tl b x m h' u' sp' nx' 36 c' ds' lb' ∧ qg_VH x h h' ∧ qg_VU m u u' ∧ h' 55 2 = h 55 2) := by
  intro N
  induction N using Nat.strongRecOn with
  | _ N IH =>
    intro n n' c h u sp nx T ds lb hN hn hn' Z
    obtain ⟨n1, hn1⟩ : ∃ n1, n = n1 + 1 := ⟨n - 1, by omega⟩
    obtain ⟨n1', hn1'⟩ : ∃ n1, n' = n1 + 1 := ⟨n' - 1, by omega⟩
    subst hn1
    subst hn1'
    by_cases hT : T = 36
    · right
      subst hT
      obtain ⟨S, ⟨c0, m0, c50⟩, -, -, -, -, -, -, -, e1⟩ := id Z
      have e3 := S.2.2.2.1.1
      have k0 : u.1 83 10 = nI 0 := by rw [qt_is S.2.2.2.2.1 (j := 36) (by omega) (by omega) (k := 0) rfl]
      refine ⟨h, u, sp, nx, c, ds, lb, ?_, ?_, Z, fun _ _ _ _ _ => rfl, ⟨fun _ _ _ _ => rfl, fun _ _ => rfl, fun _ _ => rfl⟩, rfl⟩
      · simp (disch := omega) only [↓reduceIte, zR_read_L23.eq_2, qa_lit, qa_ltF, e1, e3]
      · simp (disch := omega) only [↓reduceIte, zM_readText_L48.eq_2, qa_lit, k0]
    · have spl : sp ≤ nx ∧ nx ≤ tl := ⟨Z.1.2.2.2.2.2.2.1, Z.1.2.2.2.2.2.2.2.1⟩
      have spnx := Z.1.2.2.2.2.2.2.2.2 hT
      rcases qg_step hx hm Z hT n1 n1' (by omega) with F | ⟨h', u', sp', nx', T', ds', lb', r1, r2, r3, r4, r5, r6, r7⟩
      · exact Or.inl F
      · have spl' : sp' ≤ nx' ∧ nx' ≤ tl := ⟨r3.1.2.2.2.2.2.2.1, r3.1.2.2.2.2.2.2.2.1⟩
        rw [r1, r2]
        rcases IH (N - 1) (by omega) n1 n1' (c + 1) h' u' sp' nx' T' ds' lb' (by omega) (by omega) (by omega) r3 with ⟨f, p, h2, u2, f1, f6, x1, x2, x3, x4, x5, x6, x7⟩ | ⟨h2, u2, sp2, nx2, c2, ds2, lb2, x1, x2, x3, x4, x5, x6⟩
        · exact Or.inl ⟨f, p, h2, u2, f1, f6, x1, x2, x3, fun c a1 a2 a3 a4 => by rw [x4 c a1 a2 a3 a4, r5 c a1 a2 a3 a4], x5, x6, fun c a1 a2 a3 => by rw [x7.1 c a1 a2 a3, r6.1 c a1 a2 a3], fun j a => by rw [x7.2.1 j a, r6.2.1 j a], fun j a => by rw [x7.2.2 j a, r6.2.2 j a]⟩
        · exact Or.inr ⟨h2, u2, sp2, nx2, c2, ds2, lb2, x1, x2, x3, fun c a1 a2 a3 a4 => by rw [x4 c a1 a2 a3 a4, r5 c a1 a2 a3 a4], ⟨fun c a1 a2 a3 => by rw [x5.1 c a1 a2 a3, r6.1 c a1 a2 a3], fun j a => by rw [x5.2.1 j a, r6.2.1 j a], fun j a => by rw [x5.2.2 j a, r6.2.2 j a]⟩, by rw [x6, r7]⟩
/-- a text that was read -/
theorem qg_TS_txt {h : Nat → Nat → Int32} {u : zHM} {sp nx T c : Nat} {ds : List (Nat × Nat)} {lb : Nat} (Z : qg_TS tl b x m h u sp nx T c ds lb) : qi_txt x m h (u.1 86) := by
  obtain ⟨S, ⟨c0, m0, c50⟩, ⟨d0, dc⟩, K, dl, ok, ⟨X1, X2⟩, -, -, -⟩ := Z
  have spl : sp ≤ nx ∧ nx ≤ tl ∧ tl ≤ 300 := ⟨S.2.2.2.2.2.2.1, S.2.2.2.2.2.2.2.1, S.1.2.2.1⟩
  refine ⟨c, ds.reverse, c50, by rw [List.length_reverse]; omega, c0, m0, fun j hj => ⟨ok _ (List.mem_reverse.mp (List.getElem_mem hj)), qg_dc_at ds dc j hj, qg_dr_at ds K.2.2 j hj⟩, X1, X2⟩
/-- a text looks at its own rows -/
theorem qg_txt_c {h : Nat → Nat → Int32} {tx tx' : Nat → Int32} (e : ∀ j, m ≤ j → j < m + 785 → tx' j = tx j) (H : qi_txt x m h tx) : qi_txt x m h tx' := by
  obtain ⟨n, cs, n50, c300, k1, k2, k3, k4, k5⟩ := H
  have er : ∀ i, i < n → tx' (m + 1 + 3 * i) = tx (m + 1 + 3 * i) ∧ tx' (m + 1 + 3 * i + 1) = tx (m + 1 + 3 * i + 1) ∧ tx' (m + 1 + 3 * i + 2) = tx (m + 1 + 3 * i + 2) := fun i hi => ⟨e _ (by omega) (by omega), e _ (by omega) (by omega), e _ (by omega) (by omega)⟩
  refine ⟨n, cs, n50, c300, k1, by rw [e m (by omega) (by omega)]; exact k2, fun j hj => ?_, fun i hi => ?_, fun s hs hn => k5 s hs (fun i hi => by rw [← (er i hi).1]; exact hn i hi)⟩
  · rw [e _ (by omega) (by omega), e _ (by omega) (by omega)]
    exact k3 j hj
  · obtain ⟨a1, a2, a3⟩ := er i hi
    rw [a1, a2, a3]
    obtain ⟨s, s7, q1, q2, q3, q4, q5⟩ := k4 i hi
    refine ⟨s, s7, q1, q2, q3, q4, fun hs => ?_⟩
    obtain ⟨z1, z2⟩ := q5 hs
    exact ⟨fun i' h1 h2 => by rw [(er i' h1).1]; exact z1 i' h1 h2, z2⟩
/-- and so does a law of it -/
theorem qg_law_c {h : Nat → Nat → Int32} {tx tx' : Nat → Int32} (e : ∀ j, m ≤ j → j < m + 785 → tx' j = tx j) (H : qi_txt x m h tx) {s : Nat} (hs : s < 3) (nm : Nat → Int) : ql_law tx' m s nm = ql_law tx m s nm := by
  obtain ⟨n, cs, n50, c300, k1, k2, k3, k4, k5⟩ := H
  have vm : qv tx' m = n ∧ qv tx m = n := by
    unfold qv
    rw [e m (by omega) (by omega), k2, qa_cl (by omega)]
    exact ⟨rfl, rfl⟩
  have cf : ∀ k i, i + k = n → ql_cf tx' m s i k = ql_cf tx m s i k := fun k => by
    induction k with
    | zero => intro i _; rfl
    | succ k ih =>
      intro i hi
      unfold ql_cf
      rw [e _ (by omega) (by omega), ih (i + 1) (by omega)]
  have at' : ∀ k i p, i + k = n → ql_cf tx m s i k = some p → p < n ∧ tx (m + 1 + 3 * p) = nI s := fun k => by
    induction k with
    | zero => intro i p _ q; cases q
    | succ k ih =>
      intro i p hi q
      unfold ql_cf at q
      split at q
      · next z =>
        rw [← Option.some.inj q]
        exact ⟨by omega, z⟩
      · exact ih (i + 1) p (by omega) q
  unfold ql_law
  rw [vm.1, vm.2, cf n 0 (by omega)]
  cases hq : ql_cf tx m s 0 n with
  | none => rfl
  | some p =>
    obtain ⟨p1, p2⟩ := at' n 0 p (by omega) hq
    have e1 := e (m + 1 + 3 * p + 1) (by omega) (by omega)
    have e2 := e (m + 1 + 3 * p + 2) (by omega) (by omega)
    have sg : ql_seg tx' m (qv tx' (m + 1 + 3 * p + 1)) (qv tx' (m + 1 + 3 * p + 2)) = ql_seg tx m (qv tx (m + 1 + 3 * p + 1)) (qv tx (m + 1 + 3 * p + 2)) := by
      obtain ⟨s', s7, q1, q2, q3, q4, q5⟩ := k4 p p1
      have s8 : s' < 2147483648 := Nat.lt_of_le_of_lt s7 (by decide)
      have s9 : s < 2147483648 := Nat.lt_trans hs (by decide)
      rw [p2] at q1
      have es := (nI_eq s9 s8).mp q1
      subst es
      obtain ⟨-, b', e', z1, z2, z3, z4, -⟩ := q5 hs
      have e300 : e' ≤ 300 := Nat.le_trans z2 c300
      have b300 : b' < 2147483648 := Nat.lt_trans (Nat.lt_of_lt_of_le z1 e300) (by decide)
      have v1 : qv tx' (m + 1 + 3 * p + 1) = b' ∧ qv tx (m + 1 + 3 * p + 1) = b' := by
        unfold qv
        rw [e1, z3, qa_cl b300]
        exact ⟨rfl, rfl⟩
      have v2 : qv tx' (m + 1 + 3 * p + 2) = e' ∧ qv tx (m + 1 + 3 * p + 2) = e' := by
        unfold qv
        rw [e2, z4, qa_cl (Nat.lt_of_le_of_lt e300 (by decide))]
        exact ⟨rfl, rfl⟩
      rw [v1.1, v1.2, v2.1, v2.2]
      unfold ql_seg
      apply List.map_congr_left
      intro j hj
      rw [List.mem_range] at hj
      have b1 : m ≤ m + 185 + 2 * (b' + j) := by clear q3 q4 q5 k3 k4 k5; omega
      have b2 : m + 185 + 2 * (b' + j) + 1 < m + 785 := by clear q3 q4 q5 k3 k4 k5; omega
      unfold qv
      rw [e _ b1 (Nat.lt_of_succ_lt b2), e _ (Nat.le_succ_of_le b1) b2]
    simp only [sg]
end
section
variable {k P pn fn tn bn pn' fn' tn' bn' tl : Nat} {h : Nat → Nat → Int32} {w : zHM}
theorem qo_text (H : qi_core k P pn fn tn bn pn' fn' tn' bn' tl h w) (C : qi_cch pn fn bn h (w.1 84) (w.1 86)) : ∃ r h' w' tn2 tl2, zH_text h = some (r, h') ∧ zM_text w = some (r, w') ∧ qi_core k P pn fn tn2 bn pn' fn' tn' bn' tl2 h' w' ∧ qi_cch pn fn bn h' (w'.1 84) (w'.1 86) := by
  obtain ⟨⟨hP3, hP8, hP, htn⟩, ⟨⟨a0, a1, a4, a6, lpn, lfn, ltn, lbn⟩, A2, A3, A5, Ap, Af, At⟩, HA', HS, HS', ⟨g1, g2, g3, g4⟩, ⟨f1, f2⟩, HX, HE⟩ := id H
  have HS0 := HS
  obtain ⟨⟨s0, s1, s4, s9, s10, s11, s12, s13⟩, Sp, Sf, Sg, St, Su, Sv⟩ := qi_stg0 HS
  by_cases t4 : tn = 4
  · refine ⟨qN, h, w, tn, tl, ?_, ?_, H, C⟩
    · rw [t4] at s11
      simp (disch := omega) only [↓reduceIte, zH_text, s11, qa_lit, qa_ltF, qa_neg1]
    · rw [t4] at a4
      simp (disch := omega) only [↓reduceIte, zM_text, a4, qa_lit, qa_neg1]
  · have t3 : tn ≤ 3 := by omega
    obtain ⟨x, hx⟩ : ∃ x, x = 20 + 7 * tn := ⟨_, rfl⟩
    obtain ⟨m, hm⟩ : ∃ m, m = 790 * tn := ⟨_, rfl⟩
    have hx41 : x ≤ 41 := by omega
    have hm2 : m ≤ 2370 := by omega
    -- what lies on the tape
    have tb : ∀ j, j < tl → w.1 87 j = nI (qv (w.1 87) j) ∧ qv (w.1 87) j < 256 := fun j hj => by
      obtain ⟨y, y1, y2⟩ := (g4 j hj).2
      unfold qv
      rw [y2, qa_cl (by omega)]
      exact ⟨rfl, y1⟩
    -- both begin
    generalize hv : va_up (va_up (va_up (va_up (va_up h x (upd (upd (h x) 0 (nI 0)) 4 (nI 0))) (x + 5) (zfill 3 (nI 0) (h (x + 5)))) (x + 6) (zfill 3 (nI 0) (h (x + 6)))) 55 (upd (upd (h 55) 1 (nI 0)) 2 qN)) 56 (upd (h 56) 2 (nI 0)) = v
    have v0 : ∀ c, c ≠ x → c ≠ x + 5 → c ≠ x + 6 → c ≠ 55 → c ≠ 56 → v c = h c := fun c c1 c2 c3 c4 c5 => by subst hv; rw [qa_une _ _ c5, qa_une _ _ c4, qa_une _ _ c3, qa_une _ _ c2, qa_une _ _ c1]
    have vx : v x = upd (upd (h x) 0 (nI 0)) 4 (nI 0) := by subst hv; rw [qa_une _ _ (by omega), qa_une _ _ (by omega), qa_une _ _ (by omega), qa_une _ _ (by omega), va_up_self]
    have vx5 : v (x + 5) = zfill 3 (nI 0) (h (x + 5)) := by subst hv; rw [qa_une _ _ (by omega), qa_une _ _ (by omega), qa_une _ _ (by omega), va_up_self]
    have vx6 : v (x + 6) = zfill 3 (nI 0) (h (x + 6)) := by subst hv; rw [qa_une _ _ (by omega), qa_une _ _ (by omega), va_up_self]
    have v55 : v 55 = upd (upd (h 55) 1 (nI 0)) 2 qN := by subst hv; rw [qa_une _ _ (by omega), va_up_self]
    have v56 : v 56 = upd (h 56) 2 (nI 0) := by subst hv; rw [va_up_self]
    generalize hy : ((va_up (va_up (va_up w.1 83 (upd (w.1 83) 13 (nI m))) 86 (upd (w.1 86) m (nI 0))) 83 (upd (upd (upd (upd (upd (w.1 83) 13 (nI m)) 15 (nI 0)) 19 (nI 0)) 22 (nI 0)) 8 (nI 0)), w.2) : zHM) = y
    have y0 : ∀ c, c ≠ 83 → c ≠ 86 → y.1 c = w.1 c := fun c c1 c2 => by subst hy; simp (disch := omega) only [↓reduceIte, ↓qa_b, qa_b, qa_lit, qa_neg1, qa_qN, nI_add, pk_mul, qa_ix, qa_cl, qa_ltT, qa_ltF, qa_eqT, qa_eqF, qa_nN, qa_Nn, qa_ltN, qa_Nlt, qa_NN, qa_ltNN, qa_sub, qa_dec, qa_dec0, qa_sub0, qa_incN, qa_31, qa_shr, qa_shl, qa_and1, va_up_self, qa_une, pk_us, pk_un, qa_up2, qa_upd2, Option.bind_some, if_true, if_false, and_true, true_and, and_self, qa_f1, qa_f2]
    have y83 : y.1 83 = upd (upd (upd (upd (upd (w.1 83) 13 (nI m)) 15 (nI 0)) 19 (nI 0)) 22 (nI 0)) 8 (nI 0) := by subst hy; simp (disch := omega) only [↓reduceIte, ↓qa_b, qa_b, qa_lit, qa_neg1, qa_qN, nI_add, pk_mul, qa_ix, qa_cl, qa_ltT, qa_ltF, qa_eqT, qa_eqF, qa_nN, qa_Nn, qa_ltN, qa_Nlt, qa_NN, qa_ltNN, qa_sub, qa_dec, qa_dec0, qa_sub0, qa_incN, qa_31, qa_shr, qa_shl, qa_and1, va_up_self, qa_une, pk_us, pk_un, qa_up2, qa_upd2, Option.bind_some, if_true, if_false, and_true, true_and, and_self, qa_f1, qa_f2]
    have y86 : y.1 86 = upd (w.1 86) m (nI 0) := by subst hy; simp (disch := omega) only [↓reduceIte, ↓qa_b, qa_b, qa_lit, qa_neg1, qa_qN, nI_add, pk_mul, qa_ix, qa_cl, qa_ltT, qa_ltF, qa_eqT, qa_eqF, qa_nN, qa_Nn, qa_ltN, qa_Nlt, qa_NN, qa_ltNN, qa_sub, qa_dec, qa_dec0, qa_sub0, qa_incN, qa_31, qa_shr, qa_shl, qa_and1, va_up_self, qa_une, pk_us, pk_un, qa_up2, qa_upd2, Option.bind_some, if_true, if_false, and_true, true_and, and_self, qa_f1, qa_f2]
    have B : qt_B tl (qv (w.1 87)) v y := ⟨by rw [v56, pk_un (by omega)]; exact g2, by rw [y83, pk_un (by omega), pk_un (by omega), pk_un (by omega), pk_un (by omega), pk_un (by omega)]; exact g1, g3, fun j hj => ⟨by rw [v0 57 (by omega) (by omega) (by omega) (by omega) (by omega), (g4 j hj).1]; exact (tb j hj).1, by rw [y0 87 (by omega) (by omega)]; exact tb j hj⟩⟩
    obtain ⟨h1, u1, sp, nx, T, d1, d2, d3, d4, d5⟩ := qt_adv B (Nat.zero_le _) (by rw [v56, pk_us]) (by rw [y83, pk_us])
    have Z : qg_TS tl (qv (w.1 87)) x m h1 u1 sp nx T 0 [] 0 := by
      refine ⟨d3, ⟨?_, ?_, by omega⟩, ⟨?_, trivial⟩, ⟨?_, ?_, trivial⟩, Nat.zero_le _, (fun q hq => by cases hq), ⟨fun i hi => by omega, fun s hs _ => ⟨?_, ?_⟩⟩, ⟨?_, by omega, fun s hs => ?_⟩, ?_, ?_⟩
      · rw [d5.1 x (by omega), vx, pk_un (by omega), pk_us]
      · rw [d5.2.1 86 (by omega), y86, pk_us]
      · rw [d5.1 x (by omega), vx, pk_us]; rfl
      · rw [d5.2.2 13 (by omega) (by omega) (by omega) (by omega), y83, pk_un (by omega), pk_un (by omega), pk_un (by omega), pk_un (by omega), pk_us]
      · rw [d5.2.2 15 (by omega) (by omega) (by omega) (by omega), y83, pk_un (by omega), pk_un (by omega), pk_un (by omega), pk_us]; rfl
      · rw [d5.1 (x + 5) (by omega), vx5]; exact qa_fill hs
      · rw [d5.1 (x + 6) (by omega), vx6]; exact qa_fill hs
      · rw [d5.2.2 22 (by omega) (by omega) (by omega) (by omega), y83, pk_un (by omega), pk_us]
      · rw [Nat.zero_testBit]
        exact ⟨(fun q => by cases q), (fun ⟨i, hi, _⟩ => by omega)⟩
      · rw [d5.2.2 19 (by omega) (by omega) (by omega) (by omega), y83, pk_un (by omega), pk_un (by omega), pk_us]
      · rw [d5.1 55 (by omega), v55, pk_un (by omega), pk_us]
    have R := qg_read hx41 hm2 (tl - sp) am_N am_N 0 h1 u1 sp nx T [] 0 (Nat.le_refl _) (Nat.lt_of_le_of_lt (show tl - sp + 1 ≤ 301 by omega) (by decide)) (Nat.lt_of_le_of_lt (show tl - sp ≤ 300 by omega) (by decide)) Z
    have clsE : zR_read x h = zR_read_L23 am_N x (nI 0) h1 := by
      rw [← hv] at d1
      simp (disch := omega) only [↓qa_b, zR_read, zX_empty, zT_rewind, qa_lit, qa_neg1, qa_qN, qa_une, va_up_self, qa_up2, d1, Option.bind_some]
    have refE : zM_readText w = zM_readText_L48 am_N u1 := by
      rw [← hy] at d2
      have em : nI 790 * w.1 84 4 = nI m := by rw [a4, pk_mul, hm]
      simp (disch := omega) only [↓reduceIte, ↓qa_b, zM_readText, qa_lit, em, qa_f1, va_up_self, qa_ix, qa_cl, pk_us, qa_une, qa_up2, d2, Option.bind_some]
    have eX : ∀ h', zR_read x h = some h' → zH_text h = (if (va_up h' 56 (upd (h' 56) 1 (nI 0))) 55 1 = nI 0 then some ((va_up h' 56 (upd (h' 56) 1 (nI 0))) 1 11, va_up (va_up h' 56 (upd (h' 56) 1 (nI 0))) 1 (upd ((va_up h' 56 (upd (h' 56) 1 (nI 0))) 1) 11 ((va_up h' 56 (upd (h' 56) 1 (nI 0))) 1 11 + nI 1))) else some (qN, va_up h' 56 (upd (h' 56) 1 (nI 0)))) := fun h' q => by
      rw [hx] at q
      simp (disch := omega) only [↓reduceIte, ↓qa_b, zH_text, s11, qa_lit, qa_ltT, qa_ix, qa_cl, q, Option.bind_some, qa_neg1]
    -- what lies beside it
    have V1 : ∀ h', qg_VH x h1 h' → ∀ c, c ≠ 55 → c ≠ 56 → c ≠ 58 → c < x ∨ x + 6 < c → (va_up h' 56 (upd (h' 56) 1 (nI 0))) c = h c := fun h' q c c1 c2 c3 c4 => by rw [qa_une _ _ c2, q c c1 c2 c3 c4, d5.1 c c2, v0 c (by omega) (by omega) (by omega) c1 c2]
    have V2 : ∀ u', qg_VU m u1 u' → (∀ c, c ≠ 83 → c ≠ 86 → c ≠ 88 → u'.1 c = w.1 c) ∧ (∀ j, j < 8 → u'.1 83 j = w.1 83 j) ∧ ∀ j, j < m ∨ m + 785 ≤ j → u'.1 86 j = w.1 86 j := fun u' q => ⟨fun c c1 c2 c3 => by rw [q.1 c c1 c2 c3, d5.2.1 c c1, y0 c c1 c2], fun j hj => by rw [q.2.1 j hj, d5.2.2 j (by omega) (by omega) (by omega) (by omega), y83, pk_un (by omega), pk_un (by omega), pk_un (by omega), pk_un (by omega), pk_un (by omega)], fun j hj => by rw [q.2.2 j hj, d5.2.1 86 (by omega), y86, pk_un (by omega)]⟩
    -- both heaps behind it
    have fin : ∀ (h' : Nat → Nat → Int32) (w' : zHM) (tn2 : Nat), (∀ c, c ≠ 1 → c ≠ 55 → c ≠ 56 → c ≠ 58 → c < x ∨ x + 6 < c → h' c = h c) → (∀ j, j ≠ 11 → h' 1 j = h 1 j) → h' 1 11 = nI tn2 → (∀ c, c ≠ 83 → c ≠ 84 → c ≠ 86 → c ≠ 88 → w'.1 c = w.1 c) → (∀ j, j ≠ 4 → w'.1 84 j = w.1 84 j) → w'.1 84 4 = nI tn2 → (∀ j, j < m ∨ m + 785 ≤ j → w'.1 86 j = w.1 86 j) → (tn2 = tn ∨ tn2 = tn + 1 ∧ qi_txt x m h' (w'.1 86)) → h' 56 1 = nI 0 → w'.1 83 5 = nI 0 → w'.1 83 2 = nI P → h' 55 1 = w'.1 83 6 → h' 55 2 = w'.1 83 7 → qi_core k P pn fn tn2 bn pn' fn' tn' bn' 0 h' w' ∧ qi_cch pn fn bn h' (w'.1 84) (w'.1 86) := fun h' w' tn2 k1 k2 k3 k4 k5 k6 k7 k8 k9 k10 k11 k12 k13 => by
      have tn24 : tn ≤ tn2 ∧ tn2 ≤ 4 := by omega
      refine ⟨⟨⟨hP3, hP8, k11, by omega⟩, ⟨⟨by rw [k5 0 (by omega)]; exact a0, by rw [k5 1 (by omega)]; exact a1, k6, by rw [k5 6 (by omega)]; exact a6, lpn, lfn, by omega, lbn⟩, by rw [k5 2 (by omega)]; exact A2, by rw [k5 3 (by omega)]; exact A3, ?_, fun p hp => by rw [k5 _ (by omega), k5 _ (by omega)]; exact Ap p hp, fun f hf => by rw [k5 _ (by omega), k5 _ (by omega), k5 _ (by omega), k5 _ (by omega)]; exact Af f hf, fun t f ht hf => by rw [k5 _ (by omega), k5 _ (by omega)]; exact At t f ht hf⟩, by rw [k4 85 (by omega) (by omega) (by omega) (by omega)]; exact HA', ?_, by rw [k4 85 (by omega) (by omega) (by omega) (by omega)]; exact qi_stg_h (fun c c1 c2 => k1 c (by omega) (by omega) (by omega) (by omega) (by omega)) HS', ⟨k10, k9, by omega, fun j hj => by omega⟩, ⟨k12, k13⟩, fun i hi => ?_, by rw [k1 53 (by omega) (by omega) (by omega) (by omega) (by omega), k1 54 (by omega) (by omega) (by omega) (by omega) (by omega)]; exact HE⟩, ?_⟩
      · rw [k5 5 (by omega)]
        rcases A5 with q | ⟨r, r1, r2⟩
        · exact Or.inl q
        · exact Or.inr ⟨r, by omega, r2⟩
      · refine ⟨⟨by rw [k2 0 (by omega)]; exact s0, by rw [k2 1 (by omega)]; exact s1, by rw [k2 4 (by omega)]; exact s4, by rw [k2 9 (by omega), k5 2 (by omega)]; exact s9, by rw [k2 10 (by omega), k5 3 (by omega)]; exact s10, k3, by rw [k2 12 (by omega), k5 5 (by omega)]; exact s12, by rw [k2 13 (by omega)]; exact s13⟩, fun p hp => ?_, fun f hf => ?_, fun f hf hf' => ?_, fun t f ht hf => ?_, fun t f ht hf hf' => ?_, fun t f ht hf hf' => ?_⟩
        · rw [k5 _ (by omega), k5 _ (by omega), k1 (0 + 2) (by omega) (by omega) (by omega) (by omega) (by omega), k1 (0 + 3) (by omega) (by omega) (by omega) (by omega) (by omega)]
          exact Sp p hp
        · rw [k5 _ (by omega), k5 _ (by omega), k5 _ (by omega), k5 _ (by omega), k1 (0 + 4) (by omega) (by omega) (by omega) (by omega) (by omega), k1 (0 + 5) (by omega) (by omega) (by omega) (by omega) (by omega), k1 (0 + 6) (by omega) (by omega) (by omega) (by omega) (by omega), k1 (0 + 7) (by omega) (by omega) (by omega) (by omega) (by omega)]
          exact Sf f hf
        · rw [k1 (0 + 6) (by omega) (by omega) (by omega) (by omega) (by omega), k1 (0 + 7) (by omega) (by omega) (by omega) (by omega) (by omega)]
          exact Sg f hf hf'
        · rw [k5 _ (by omega), k5 _ (by omega), k1 (0 + 8) (by omega) (by omega) (by omega) (by omega) (by omega), k1 (0 + 9) (by omega) (by omega) (by omega) (by omega) (by omega)]
          exact St t f ht hf
        · rw [k1 (0 + 8) (by omega) (by omega) (by omega) (by omega) (by omega)]
          exact Su t f ht hf hf'
        · rw [k1 (0 + 9) (by omega) (by omega) (by omega) (by omega) (by omega)]
          exact Sv t f ht hf hf'
      · by_cases q : i < tn
        · exact qg_txt_c (fun j j1 j2 => k7 j (by omega)) (qi_txt_h (fun c c1 c2 => k1 c (by omega) (by omega) (by omega) (by omega) (by omega)) (HX i q))
        · rcases k8 with k8 | ⟨k8, k8'⟩
          · omega
          · have : i = tn := by omega
            rw [this, ← hx, ← hm]
            exact k8'
      · refine qi_cch_keep (h := h) (a := w.1 84) (tx := w.1 86) ⟨fun j _ j4 => k5 j j4, fun s nm hs => ?_⟩ lpn lfn lbn (fun c c1 c2 => k1 c (by omega) (by omega) (by omega) (by omega) (by omega)) ?_ C
        · unfold ql_so
          rw [k5 5 (by omega)]
          rcases A5 with q | ⟨r, r1, r2⟩
          · rw [if_pos q, if_pos q]
          · have vr : qv (w'.1 84) 5 = r ∧ qv (w.1 84) 5 = r := by
              unfold qv
              rw [k5 5 (by omega), r2, qa_cl (by omega)]
              exact ⟨rfl, rfl⟩
            rw [vr.1, vr.2, qg_law_c (fun j j1 j2 => k7 j (by omega)) (HX r r1) hs nm]
        · rw [k1 59 (by omega) (by omega) (by omega) (by omega) (by omega)]
          rcases C.1 with q | ⟨q, qL⟩
          · exact Or.inl q
          · exact Or.inr ⟨q, fun t ht f hf => qk_ok_h ⟨by rw [k1 62 (by omega) (by omega) (by omega) (by omega) (by omega)], by rw [k1 63 (by omega) (by omega) (by omega) (by omega) (by omega)], by rw [k1 64 (by omega) (by omega) (by omega) (by omega) (by omega)]⟩ (qL t ht f hf)⟩
    rcases R with ⟨f, p, h', u', q1, q6, x1, x2, x3, x4, x5, x6, x7⟩ | ⟨h', u', sp', nx', c', ds', lb', x1, x2, x3, x4, x5, x6⟩
    · obtain ⟨w1, w2, w3⟩ := V2 u' x7
      generalize hg : va_up h' 56 (upd (h' 56) 1 (nI 0)) = g
      have ge := V1 h' x4
      rw [hg] at ge
      have g55 : g 55 = h' 55 := by rw [← hg]; exact qa_une _ _ (by omega)
      have g56 : g 56 1 = nI 0 := by rw [← hg, va_up_self, pk_us]
      generalize hz : ((va_up u'.1 83 (upd (upd (upd (u'.1 83) 6 (nI f)) 7 (nI p)) 5 (nI 0)), u'.2) : zHM) = z
      have z0 : ∀ c, c ≠ 83 → z.1 c = u'.1 c := fun c c1 => by subst hz; simp (disch := omega) only [↓reduceIte, ↓qa_b, qa_b, qa_lit, qa_neg1, qa_qN, nI_add, pk_mul, qa_ix, qa_cl, qa_ltT, qa_ltF, qa_eqT, qa_eqF, qa_nN, qa_Nn, qa_ltN, qa_Nlt, qa_NN, qa_ltNN, qa_sub, qa_dec, qa_dec0, qa_sub0, qa_incN, qa_31, qa_shr, qa_shl, qa_and1, va_up_self, qa_une, pk_us, pk_un, qa_up2, qa_upd2, Option.bind_some, if_true, if_false, and_true, true_and, and_self, qa_f1, qa_f2]
      have z83 : z.1 83 = upd (upd (upd (u'.1 83) 6 (nI f)) 7 (nI p)) 5 (nI 0) := by subst hz; simp (disch := omega) only [↓reduceIte, ↓qa_b, qa_b, qa_lit, qa_neg1, qa_qN, nI_add, pk_mul, qa_ix, qa_cl, qa_ltT, qa_ltF, qa_eqT, qa_eqF, qa_nN, qa_Nn, qa_ltN, qa_Nlt, qa_NN, qa_ltNN, qa_sub, qa_dec, qa_dec0, qa_sub0, qa_incN, qa_31, qa_shr, qa_shl, qa_and1, va_up_self, qa_une, pk_us, pk_un, qa_up2, qa_upd2, Option.bind_some, if_true, if_false, and_true, true_and, and_self, qa_f1, qa_f2]
      refine ⟨qN, g, z, tn, 0, ?_, ?_, fin g z tn (fun c c1 c2 c3 c4 c5 => ge c c2 c3 c4 c5) (fun j _ => by rw [ge 1 (by omega) (by omega) (by omega) (by omega)]) (by rw [ge 1 (by omega) (by omega) (by omega) (by omega)]; exact s11) (fun c c1 c2 c3 c4 => by rw [z0 c c1, w1 c c1 c3 c4]) (fun j _ => by rw [z0 84 (by omega), w1 84 (by omega) (by omega) (by omega)]) (by rw [z0 84 (by omega), w1 84 (by omega) (by omega) (by omega)]; exact a4) (fun j hj => by rw [z0 86 (by omega), w3 j hj]) (Or.inl rfl) g56 (by rw [z83, pk_us]) (by rw [z83, pk_un (by omega), pk_un (by omega), pk_un (by omega), w2 2 (by omega)]; exact hP) (by rw [g55, x2, z83, pk_un (by omega), pk_un (by omega), pk_us]) (by rw [g55, x3, z83, pk_un (by omega), pk_us])⟩
      · rw [eX h' (by rw [clsE]; exact x1), hg, if_neg (by rw [g55, x2, qa_eqF (by omega) (by omega) (by omega)]; exact id)]
      · have x5' : zM_readText w = some (nI f, u') := by rw [refE]; exact x5
        rw [← hz]
        simp (disch := omega) only [↓reduceIte, ↓qa_b, zM_text, zM_text_J36, a4, qa_lit, qa_eqF, x5', Option.bind_some, qa_f1, qa_f2, va_up_self, qa_up2, pk_us, pk_un, x6, qa_neg1]
    · obtain ⟨w1, w2, w3⟩ := V2 u' x5
      have tx := qg_TS_txt x3
      generalize hg : va_up h' 56 (upd (h' 56) 1 (nI 0)) = g
      have ge := V1 h' x4
      rw [hg] at ge
      have g0 : ∀ c, c ≠ 56 → g c = h' c := fun c q => by rw [← hg]; exact qa_une _ _ q
      have g56 : g 56 1 = nI 0 := by rw [← hg, va_up_self, pk_us]
      have e1' : h' 55 1 = nI 0 := x3.2.2.2.2.2.2.2.2.2
      have e2' : h' 55 2 = qN := by rw [x6, d5.1 55 (by omega), v55, pk_us]
      have g11 : g 1 11 = nI tn := by rw [ge 1 (by omega) (by omega) (by omega) (by omega)]; exact s11
      generalize hgg : va_up g 1 (upd (g 1) 11 (nI (tn + 1))) = gg
      have gg0 : ∀ c, c ≠ 1 → gg c = g c := fun c q => by rw [← hgg]; exact qa_une _ _ q
      have gg1 : gg 1 = upd (g 1) 11 (nI (tn + 1)) := by rw [← hgg]; exact va_up_self _ _ _
      generalize hz : ((va_up (va_up u'.1 83 (upd (upd (upd (u'.1 83) 6 (nI 0)) 7 qN) 5 (nI 0))) 84 (upd (u'.1 84) 4 (nI (tn + 1))), u'.2) : zHM) = z
      have z0 : ∀ c, c ≠ 83 → c ≠ 84 → z.1 c = u'.1 c := fun c c1 c2 => by subst hz; simp (disch := omega) only [↓reduceIte, ↓qa_b, qa_b, qa_lit, qa_neg1, qa_qN, nI_add, pk_mul, qa_ix, qa_cl, qa_ltT, qa_ltF, qa_eqT, qa_eqF, qa_nN, qa_Nn, qa_ltN, qa_Nlt, qa_NN, qa_ltNN, qa_sub, qa_dec, qa_dec0, qa_sub0, qa_incN, qa_31, qa_shr, qa_shl, qa_and1, va_up_self, qa_une, pk_us, pk_un, qa_up2, qa_upd2, Option.bind_some, if_true, if_false, and_true, true_and, and_self, qa_f1, qa_f2]
      have z83 : z.1 83 = upd (upd (upd (u'.1 83) 6 (nI 0)) 7 qN) 5 (nI 0) := by subst hz; simp (disch := omega) only [↓reduceIte, ↓qa_b, qa_b, qa_lit, qa_neg1, qa_qN, nI_add, pk_mul, qa_ix, qa_cl, qa_ltT, qa_ltF, qa_eqT, qa_eqF, qa_nN, qa_Nn, qa_ltN, qa_Nlt, qa_NN, qa_ltNN, qa_sub, qa_dec, qa_dec0, qa_sub0, qa_incN, qa_31, qa_shr, qa_shl, qa_and1, va_up_self, qa_une, pk_us, pk_un, qa_up2, qa_upd2, Option.bind_some, if_true, if_false, and_true, true_and, and_self, qa_f1, qa_f2]
      have z84 : z.1 84 = upd (u'.1 84) 4 (nI (tn + 1)) := by subst hz; simp (disch := omega) only [↓reduceIte, ↓qa_b, qa_b, qa_lit, qa_neg1, qa_qN, nI_add, pk_mul, qa_ix, qa_cl, qa_ltT, qa_ltF, qa_eqT, qa_eqF, qa_nN, qa_Nn, qa_ltN, qa_Nlt, qa_NN, qa_ltNN, qa_sub, qa_dec, qa_dec0, qa_sub0, qa_incN, qa_31, qa_shr, qa_shl, qa_and1, va_up_self, qa_une, pk_us, pk_un, qa_up2, qa_upd2, Option.bind_some, if_true, if_false, and_true, true_and, and_self, qa_f1, qa_f2]
      have u84 := w1 84 (by omega) (by omega) (by omega)
      refine ⟨nI tn, gg, z, tn + 1, 0, ?_, ?_, fin gg z (tn + 1) (fun c c1 c2 c3 c4 c5 => by rw [gg0 c c1]; exact ge c c2 c3 c4 c5) (fun j hj => by rw [gg1, pk_un hj, ge 1 (by omega) (by omega) (by omega) (by omega)]) (by rw [gg1, pk_us]) (fun c c1 c2 c3 c4 => by rw [z0 c c1 c2, w1 c c1 c3 c4]) (fun j hj => by rw [z84, pk_un hj, u84]) (by rw [z84, pk_us]) (fun j hj => by rw [z0 86 (by omega) (by omega), w3 j hj]) (Or.inr ⟨rfl, ?_⟩) (by rw [gg0 56 (by omega)]; exact g56) (by rw [z83, pk_us]) (by rw [z83, pk_un (by omega), pk_un (by omega), pk_un (by omega), w2 2 (by omega)]; exact hP) (by rw [gg0 55 (by omega), g0 55 (by omega), e1', z83, pk_un (by omega), pk_un (by omega), pk_us]) (by rw [gg0 55 (by omega), g0 55 (by omega), e2', z83, pk_un (by omega), pk_us])⟩
      · rw [eX h' (by rw [clsE]; exact x1), hg, if_pos (by rw [g0 55 (by omega)]; exact e1'), g11, nI_add, hgg]
      · have x2' : zM_readText w = some (nI 0, u') := by rw [refE]; exact x2
        have u4 : u'.1 84 4 = nI tn := by rw [u84]; exact a4
        have et : nI (tn + 1) - nI 1 = nI tn := by rw [qa_sub (by omega), Nat.add_sub_cancel]
        rw [← hz]
        simp (disch := omega) only [↓reduceIte, ↓qa_b, zM_text, zM_text_J36, a4, qa_lit, qa_eqF, x2', Option.bind_some, qa_f1, qa_f2, va_up_self, qa_up2, pk_us, pk_un, qa_neg1, qa_une, u4, nI_add, et]
      · rw [z0 86 (by omega) (by omega)]
        exact qi_txt_h (fun c c1 c2 => by rw [gg0 c (by omega), g0 c (by omega)]) tx
end
