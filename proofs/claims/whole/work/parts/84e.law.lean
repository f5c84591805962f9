/-! THE HEART: a law of the ruling text, asked by both -/
def ql_cf (tx : Nat → Int32) (m s : Nat) : Nat → Nat → Option Nat
  | _, 0 => none
  | i, k + 1 => if tx (m + 1 + 3 * i) = nI s then some i else ql_cf tx m s (i + 1) k
def ql_seg (tx : Nat → Int32) (m b e : Nat) : List (Nat × Nat) := (List.range (e - b)).map fun j => (qv tx (m + 185 + 2 * (b + j)), qv tx (m + 185 + 2 * (b + j) + 1))
def ql_law (tx : Nat → Int32) (m s : Nat) (nm : Nat → Int) : Bool := match ql_cf tx m s 0 (qv tx m) with
  | none => true
  | some i => (ql_ev nm (ql_seg tx m (qv tx (m + 1 + 3 * i + 1)) (qv tx (m + 1 + 3 * i + 2))) ([], [])).2.headD true
def ql_so (a tx : Nat → Int32) (s : Nat) (nm : Nat → Int) : Bool := if a 5 = qN then true else ql_law tx (790 * qv a 5) s nm
theorem ql_cf_none {tx : Nat → Int32} {m s : Nat} : ∀ {k i : Nat}, (∀ j, i ≤ j → j < i + k → tx (m + 1 + 3 * j) ≠ nI s) → ql_cf tx m s i k = none
  | 0, _, _ => rfl
  | k + 1, i, h => by
    unfold ql_cf
    rw [if_neg (h i (by omega) (by omega))]
    exact ql_cf_none (fun j h1 h2 => h j (by omega) (by omega))
theorem ql_cf_some {tx : Nat → Int32} {m s p : Nat} : ∀ {k i : Nat}, i ≤ p → p < i + k → tx (m + 1 + 3 * p) = nI s → (∀ j, i ≤ j → j < p → tx (m + 1 + 3 * j) ≠ nI s) → ql_cf tx m s i k = some p
  | 0, _, h1, h2, _, _ => by omega
  | k + 1, i, h1, h2, h3, h4 => by
    unfold ql_cf
    by_cases e : i = p
    · subst e
      rw [if_pos h3]
    · rw [if_neg (h4 i (by omega) (by omega))]
      exact ql_cf_some (by omega) (by omega) h3 (fun j h5 h6 => h4 j (by omega) h6)
/-- the reference looks for a clause -/
theorem qlm_clauseOf {w : zHM} {r s N : Nat} (h5 : w.1 84 5 = nI r) (hr : r < 4) (hs : s < 3) (hN : N ≤ 50) (e0 : w.1 86 (790 * r) = nI N) : ∀ (k n i : Nat), i + k = N → k < n → zM_clauseOf_L2 n (nI s) (nI i) w = some (match ql_cf (w.1 86) (790 * r) s i k with | none => qN | some p => nI p)
  | 0, n + 1, i, hi, _ => by
    unfold ql_cf
    simp (disch := omega) only [↓reduceIte, ↓qa_b, qa_b, qa_lit, qa_neg1, qa_qN, nI_add, pk_mul, qa_ix, qa_cl, qa_ltT, qa_ltF, qa_eqT, qa_eqF, qa_nN, qa_Nn, qa_ltN, qa_Nlt, qa_NN, qa_ltNN, qa_sub, qa_dec, qa_dec0, qa_sub0, qa_incN, qa_31, qa_shr, qa_shl, qa_and1, va_up_self, qa_une, pk_us, pk_un, qa_up2, qa_upd2, Option.bind_some, if_true, if_false, and_true, true_and, and_self, qa_f1, qa_f2, zM_clauseOf_L2, h5, e0]
  | k + 1, n + 1, i, hi, hn => by
    have ih := qlm_clauseOf h5 hr hs hN e0 k n (i + 1) (by omega) (by omega)
    unfold ql_cf
    by_cases hq : w.1 86 (790 * r + 1 + 3 * i) = nI s
    · rw [if_pos hq]
      simp (disch := omega) only [↓reduceIte, ↓qa_b, qa_b, qa_lit, qa_neg1, qa_qN, nI_add, pk_mul, qa_ix, qa_cl, qa_ltT, qa_ltF, qa_eqT, qa_eqF, qa_nN, qa_Nn, qa_ltN, qa_Nlt, qa_NN, qa_ltNN, qa_sub, qa_dec, qa_dec0, qa_sub0, qa_incN, qa_31, qa_shr, qa_shl, qa_and1, va_up_self, qa_une, pk_us, pk_un, qa_up2, qa_upd2, Option.bind_some, if_true, if_false, and_true, true_and, and_self, qa_f1, qa_f2, zM_clauseOf_L2, h5, e0, hq]
    · rw [if_neg hq]
      simp (disch := omega) only [↓reduceIte, ↓qa_b, qa_b, qa_lit, qa_neg1, qa_qN, nI_add, pk_mul, qa_ix, qa_cl, qa_ltT, qa_ltF, qa_eqT, qa_eqF, qa_nN, qa_Nn, qa_ltN, qa_Nlt, qa_NN, qa_ltNN, qa_sub, qa_dec, qa_dec0, qa_sub0, qa_incN, qa_31, qa_shr, qa_shl, qa_and1, va_up_self, qa_une, pk_us, pk_un, qa_up2, qa_upd2, Option.bind_some, if_true, if_false, and_true, true_and, and_self, qa_f1, qa_f2, zM_clauseOf_L2, h5, e0, hq]
      exact ih
theorem ql_segeq {tx : Nat → Int32} {m b e : Nat} {cs : List (Nat × Nat)} (hb : b < e) (he : e ≤ cs.length) (hc : ∀ (j : Nat) (hj : j < cs.length), qi_okc cs[j] ∧ tx (m + 185 + 2 * j) = nI cs[j].1 ∧ tx (m + 185 + 2 * j + 1) = nI cs[j].2) : (cs.drop b).take (e - b) = ql_seg tx m b e := by
  have hlen : ((cs.drop b).take (e - b)).length = e - b := by rw [List.length_take, List.length_drop]; omega
  apply List.ext_getElem
  · rw [hlen]; unfold ql_seg; rw [List.length_map, List.length_range]
  · intro j h1 h2
    rw [hlen] at h1
    have eg : (ql_seg tx m b e)[j] = (qv tx (m + 185 + 2 * (b + j)), qv tx (m + 185 + 2 * (b + j) + 1)) := by
      simp only [ql_seg, List.getElem_map, List.getElem_range]
    rw [eg, List.getElem_take, List.getElem_drop]
    obtain ⟨k0, k1, k2⟩ := hc (b + j) (by omega)
    unfold qv
    rw [k1, k2]
    have hb1 : cs[b + j].1 < 2147483648 ∧ cs[b + j].2 < 2147483648 := by
      rcases k0 with ⟨a1, a2⟩ | ⟨a1, a2⟩ | ⟨a1, a2⟩
      · omega
      · omega
      · omega
    rw [qa_cl hb1.1, qa_cl hb1.2]
section
variable {nm : Nat → Int} {h : Nat → Nat → Int32} {w : zHM} {r s : Nat}
/-- what a text says of a law -/
theorem ql_laws (HX : qi_txt (20 + 7 * r) (790 * r) h (w.1 86)) (hs : s < 3) :
    (∃ N, N ≤ 50 ∧ w.1 86 (790 * r) = nI N ∧ ql_cf (w.1 86) (790 * r) s 0 N = none ∧ h (20 + 7 * r + 5) s = nI 0 ∧ h (20 + 7 * r + 6) s = nI 0 ∧ ∀ nm, ql_law (w.1 86) (790 * r) s nm = true) ∨
    (∃ N i b e, N ≤ 50 ∧ w.1 86 (790 * r) = nI N ∧ i < N ∧ ql_cf (w.1 86) (790 * r) s 0 N = some i ∧ b < e ∧ e ≤ 300 ∧ w.1 86 (790 * r + 1 + 3 * i + 1) = nI b ∧ w.1 86 (790 * r + 1 + 3 * i + 2) = nI e ∧ h (20 + 7 * r + 5) s = nI b ∧ h (20 + 7 * r + 6) s = nI e ∧ qi_run (ql_seg (w.1 86) (790 * r) b e) (0, 0) = some (0, 1) ∧ (∀ q ∈ ql_seg (w.1 86) (790 * r) b e, q.1 = 1 → q.2 ≤ 3 ∨ q.2 = 4 + 2 * s ∨ q.2 = 5 + 2 * s) ∧
      (∀ (j : Nat) (hj : j < (ql_seg (w.1 86) (790 * r) b e).length), qi_okc (ql_seg (w.1 86) (790 * r) b e)[j] ∧ h (20 + 7 * r + 4) (b + j) = nI (qi_cd (ql_seg (w.1 86) (790 * r) b e)[j].1 (ql_seg (w.1 86) (790 * r) b e)[j].2) ∧ w.1 86 (790 * r + 185 + 2 * (b + j)) = nI (ql_seg (w.1 86) (790 * r) b e)[j].1 ∧ w.1 86 (790 * r + 185 + 2 * (b + j) + 1) = nI (ql_seg (w.1 86) (790 * r) b e)[j].2) ∧
      (ql_seg (w.1 86) (790 * r) b e).length = e - b ∧ ∀ nm, ql_law (w.1 86) (790 * r) s nm = (ql_ev nm (ql_seg (w.1 86) (790 * r) b e) ([], [])).2.headD true) := by
  obtain ⟨N, cs, b1, b2, b3, b4, b5, b6, b7⟩ := HX
  have vN : qv (w.1 86) (790 * r) = N := by unfold qv; rw [b4, qa_cl (by omega)]
  by_cases hex : ∃ i, i < N ∧ w.1 86 (790 * r + 1 + 3 * i) = nI s
  · right
    obtain ⟨i, hi, e1⟩ := hex
    obtain ⟨s', hs', t0, t0', -, -, t3⟩ := b6 i hi
    have : s' = s := (nI_eq (by omega) (by omega)).mp (t0.symm.trans e1)
    subst this
    obtain ⟨u, b, e, hbe, hel, p1, p2, p3, p4, p5, p6⟩ := t3 hs
    have hseg := ql_segeq (tx := w.1 86) (m := 790 * r) hbe hel (fun j hj => ⟨(b5 j hj).1, (b5 j hj).2.2⟩)
    have hcf : ql_cf (w.1 86) (790 * r) s' 0 N = some i := ql_cf_some (by omega) (by omega) e1 (fun j _ hj => u j (by omega) (by omega))
    have hlen : (ql_seg (w.1 86) (790 * r) b e).length = e - b := by unfold ql_seg; rw [List.length_map, List.length_range]
    refine ⟨N, i, b, e, b1, b4, hi, hcf, hbe, by omega, p1, p2, p3, p4, by rw [← hseg]; exact p5, by rw [← hseg]; exact p6, fun j hj => ?_, hlen, fun nm => ?_⟩
    · rw [hlen] at hj
      have hg : (ql_seg (w.1 86) (790 * r) b e)[j] = cs[b + j] := by
        have : (ql_seg (w.1 86) (790 * r) b e)[j]? = some cs[b + j] := by
          rw [← hseg, List.getElem?_take, if_pos hj, List.getElem?_drop, List.getElem?_eq_getElem (by omega)]
        exact (List.getElem?_eq_some_iff.mp this).2
      rw [hg]
      obtain ⟨k0, k1, k2, k3⟩ := b5 (b + j) (by omega)
      exact ⟨k0, k1, k2, k3⟩
    · unfold ql_law
      rw [vN, hcf]
      dsimp only
      have v1 : qv (w.1 86) (790 * r + 1 + 3 * i + 1) = b := by unfold qv; rw [p1, qa_cl (by omega)]
      have v2 : qv (w.1 86) (790 * r + 1 + 3 * i + 2) = e := by unfold qv; rw [p2, qa_cl (by omega)]
      rw [v1, v2]
  · left
    have hno : ∀ i, i < N → w.1 86 (790 * r + 1 + 3 * i) ≠ nI s := fun i hi e => hex ⟨i, hi, e⟩
    have hcf : ql_cf (w.1 86) (790 * r) s 0 N = none := ql_cf_none (fun j _ hj => hno j (by omega))
    refine ⟨N, b1, b4, hcf, (b7 s hs hno).1, (b7 s hs hno).2, fun nm => ?_⟩
    unfold ql_law
    rw [vN, hcf]
theorem qlm_isSo (h5 : w.1 84 5 = nI r) (hr : r < 4) (HX : qi_txt (20 + 7 * r) (790 * r) h (w.1 86)) (hs : s < 3) (hnm : ∀ v, v ≤ 3 ∨ v = 4 + 2 * s ∨ v = 5 + 2 * s → (w.1 89 v).toInt = nm v ∧ ql_sm (nm v)) : ∃ w', zM_isSo (nI s) w = some (qs_b (ql_law (w.1 86) (790 * r) s nm), w') ∧ ql_fr w w' := by
  rcases ql_laws HX hs with ⟨N, hN, e0, hcf, -, -, hlw⟩ | ⟨N, i, b, e, hN, e0, hi, hcf, hbe, he3, p1, p2, -, -, hrun, hnames, hcod, hlen, hlw⟩
  · have ec := qlm_clauseOf h5 hr hs hN e0 N am_N 0 (by omega) (Nat.lt_of_le_of_lt hN (by decide))
    rw [hcf] at ec
    refine ⟨w, ?_, ql_fr.rf w⟩
    rw [hlw nm]
    unfold zM_isSo zM_clauseOf
    simp (disch := omega) only [↓reduceIte, ↓qa_b, qa_b, qa_lit, qa_neg1, qa_qN, nI_add, pk_mul, qa_ix, qa_cl, qa_ltT, qa_ltF, qa_eqT, qa_eqF, qa_nN, qa_Nn, qa_ltN, qa_Nlt, qa_NN, qa_ltNN, qa_sub, qa_dec, qa_dec0, qa_sub0, qa_incN, qa_31, qa_shr, qa_shl, qa_and1, va_up_self, qa_une, pk_us, pk_un, qa_up2, qa_upd2, Option.bind_some, if_true, if_false, and_true, true_and, and_self, qa_f1, qa_f2, ec, qa_Nlt0]
    rfl
  · have ec := qlm_clauseOf h5 hr hs hN e0 N am_N 0 (by omega) (Nat.lt_of_le_of_lt hN (by decide))
    rw [hcf] at ec
    dsimp only at ec
    obtain ⟨w', bb, e1, e2, e3, e4⟩ := qlm_work (nm := nm) (x := 790 * r + 1 + 3 * i) (cb := 790 * r + 185) (e := e) (by omega) (by omega) he3 (ql_seg (w.1 86) (790 * r) b e) am_N b [] [] w (by rw [hlen]; exact Nat.lt_of_le_of_lt (show e - b ≤ 300 by omega) (by decide)) (by rw [hlen]; omega) p2 (fun j hj => ⟨(hcod j hj).1, (hcod j hj).2.2⟩) (fun q hq h1 => hnm q.2 (hnames q hq h1)) (by decide) (fun x hx => (nomatch hx)) trivial trivial hrun
    refine ⟨w', ?_, e4⟩
    rw [hlw nm, e2]
    unfold zM_isSo zM_clauseOf
    simp only [List.length_nil] at e1
    simp (disch := omega) only [↓reduceIte, ↓qa_b, qa_b, qa_lit, qa_neg1, qa_qN, nI_add, pk_mul, qa_ix, qa_cl, qa_ltT, qa_ltF, qa_eqT, qa_eqF, qa_nN, qa_Nn, qa_ltN, qa_Nlt, qa_NN, qa_ltNN, qa_sub, qa_dec, qa_dec0, qa_sub0, qa_incN, qa_31, qa_shr, qa_shl, qa_and1, va_up_self, qa_une, pk_us, pk_un, qa_up2, qa_upd2, Option.bind_some, if_true, if_false, and_true, true_and, and_self, qa_f1, qa_f2, ec, zM_work, h5, p1, e1, e3, ql_qb]
    rfl
theorem qlh_isSo (HX : qi_txt (20 + 7 * r) (790 * r) h (w.1 86)) (hr : r < 4) (hs : s < 3) (hnm : ∀ v, v ≤ 3 ∨ v = 4 + 2 * s ∨ v = 5 + 2 * s → (h 60 (qi_nm v)).toInt = nm v ∧ ql_sm (nm v)) : ∃ f', zL_isSo (20 + 7 * r) (nI (s + 3)) h = some (qs_b (ql_law (w.1 86) (790 * r) s nm), va_up h 61 f') := by
  have e3 : s + 3 - 3 = s := by omega
  rcases ql_laws HX hs with ⟨N, hN, e0, hcf, q5, q6, hlw⟩ | ⟨N, i, b, e, hN, e0, hi, hcf, hbe, he3, p1, p2, q5, q6, hrun, hnames, hcod, hlen, hlw⟩
  · refine ⟨h 61, ?_⟩
    have eq : va_up h 61 (h 61) = h := by funext j; unfold va_up; split <;> simp_all
    rw [hlw nm, eq]
    unfold zL_isSo zX_hasLaw
    simp (disch := omega) only [↓reduceIte, ↓qa_b, qa_b, qa_lit, qa_neg1, qa_qN, nI_add, pk_mul, qa_ix, qa_cl, qa_ltT, qa_ltF, qa_eqT, qa_eqF, qa_nN, qa_Nn, qa_ltN, qa_Nlt, qa_NN, qa_ltNN, qa_sub, qa_dec, qa_dec0, qa_sub0, qa_incN, qa_31, qa_shr, qa_shl, qa_and1, va_up_self, qa_une, pk_us, pk_un, qa_up2, qa_upd2, Option.bind_some, if_true, if_false, and_true, true_and, and_self, qa_f1, qa_f2, e3, q5, q6]
    rfl
  · obtain ⟨f', bb, e1, e2⟩ := qlh_work (nm := nm) (x := 20 + 7 * r) (e := e) (by omega) he3 (ql_seg (w.1 86) (790 * r) b e) am_N b [] [] h (by rw [hlen]; exact Nat.lt_of_le_of_lt (show e - b ≤ 300 by omega) (by decide)) (by rw [hlen]; omega) (fun j hj => ⟨(hcod j hj).1, (hcod j hj).2.1⟩) (fun q hq h1 => hnm q.2 (hnames q hq h1)) (by decide) (fun x hx => (nomatch hx)) trivial trivial hrun
    refine ⟨f', ?_⟩
    rw [hlw nm, e2]
    unfold zL_isSo zX_hasLaw
    simp only [List.length_nil, Nat.add_zero] at e1
    simp (disch := omega) only [↓reduceIte, ↓qa_b, qa_b, qa_lit, qa_neg1, qa_qN, nI_add, pk_mul, qa_ix, qa_cl, qa_ltT, qa_ltF, qa_eqT, qa_eqF, qa_nN, qa_Nn, qa_ltN, qa_Nlt, qa_NN, qa_ltNN, qa_sub, qa_dec, qa_dec0, qa_sub0, qa_incN, qa_31, qa_shr, qa_shl, qa_and1, va_up_self, qa_une, pk_us, pk_un, qa_up2, qa_upd2, Option.bind_some, if_true, if_false, and_true, true_and, and_self, qa_f1, qa_f2, e3, q5, q6, e1]
    rfl
end
