/-! THE HEART: the reader: an ASK, both -/
def qg_K (m : Nat) (u : zHM) (ds : List (Nat × Nat)) : Prop := u.1 83 13 = nI m ∧ u.1 83 15 = nI ds.length ∧ qg_dr (u.1 86) m ds
/-- an ASK begins; k nots stand ahead -/
def qg_A (tl : Nat) (b : Nat → Nat) (x m s : Nat) (ds0 : List (Nat × Nat)) (a o : Bool) (k : Nat) (h : Nat → Nat → Int32) (u : zHM) (sp nx T : Nat) (lw : List (Nat × Nat)) : Prop :=
  qt_S tl b h u sp nx T ∧ qg_C x h (lw ++ ds0) (List.replicate k 2 ++ qg_b0 a o) k 0 false false true ∧ qg_K m u (lw ++ ds0) ∧ (u.1 83 19 = nI k ∧ k ≤ 8) ∧ qg_rn lw = some (0, (qg_b0 a o).length) ∧ (∀ q ∈ lw, qg_nm s q) ∧ (lw ++ ds0).length + (k + (qg_b0 a o).length) ≤ sp ∧ u.1 83 21 = nI s
/-- an ASK has ended; the class hasn't yet taken what waits off its pile -/
def qg_E (tl : Nat) (b : Nat → Nat) (x m s : Nat) (ds0 : List (Nat × Nat)) (a o : Bool) (h : Nat → Nat → Int32) (u : zHM) (sp nx T : Nat) (lw : List (Nat × Nat)) (seg : List Nat) (T1 k : Nat) : Prop :=
  qt_S tl b h u sp nx T ∧ qg_C x h (lw ++ ds0) (seg.map qg_t ++ (T1 :: (List.replicate k 2 ++ qg_b0 a o))) k 0 true true false ∧ qg_K m u (qg_em (seg ++ ([T1 - 11] ++ List.replicate k 20)) lw ++ ds0) ∧ (u.1 83 19 = nI 0 ∧ k ≤ 8) ∧ qg_rn lw = some (1 + seg.length + 1, (qg_b0 a o).length) ∧ (∀ q ∈ lw, qg_nm s q) ∧ (lw ++ ds0).length + (seg.length + (1 + (k + (qg_b0 a o).length))) ≤ sp ∧ u.1 83 21 = nI s ∧ (21 ≤ T1 ∧ T1 ≤ 26) ∧ (∀ e ∈ seg, 3 ≤ e ∧ e ≤ 6) ∧ seg.length ≤ 26 ∧ ¬ (27 ≤ T ∧ T ≤ 30)
theorem qg_b0l (a o : Bool) : (qg_b0 a o).length ≤ 2 ∧ (∀ t ∈ qg_b0 a o, t = 0 ∨ t = 1) ∧ (qg_b0 a o).countP qg_on = 0 := by
  cases a <;> cases o <;> refine ⟨by decide, ?_, by decide⟩ <;> intro t ht <;> simp [qg_b0] at ht <;> omega
theorem qg_Bk (k : Nat) (a o : Bool) : qg_B (List.replicate k 2 ++ qg_b0 a o) k ∧ (∀ t ∈ List.replicate k 2 ++ qg_b0 a o, qg_rk t < 4) := by
  obtain ⟨b1, b2, b3⟩ := qg_b0l a o
  have mem : ∀ t ∈ List.replicate k 2 ++ qg_b0 a o, t = 0 ∨ t = 1 ∨ t = 2 := fun t ht => by
    rcases List.mem_append.mp ht with q | q
    · exact Or.inr (Or.inr (List.eq_of_mem_replicate q))
    · rcases b2 t q with z | z
      · exact Or.inl z
      · exact Or.inr (Or.inl z)
  refine ⟨⟨fun t ht => ?_, ?_, ?_⟩, fun t ht => ?_⟩
  · rcases mem t ht with z | z | z <;> subst z <;> decide
  · rw [List.countP_append, b3, List.countP_replicate, if_pos (show qg_on 2 = true from rfl)]
    rfl
  · rw [List.length_append, List.length_replicate]
    omega
  · rcases mem t ht with z | z | z <;> subst z <;> decide
theorem qg_Bc {k T1 : Nat} (hT : 21 ≤ T1 ∧ T1 ≤ 26) (a o : Bool) : qg_B (T1 :: (List.replicate k 2 ++ qg_b0 a o)) k := by
  obtain ⟨⟨B1, B2, B3⟩, -⟩ := qg_Bk k a o
  obtain ⟨b1, b2, b3⟩ := qg_b0l a o
  obtain ⟨q1, q2, q3, q4⟩ := qg_cmpT T1 (by omega) hT.1
  refine ⟨fun t ht => ?_, ?_, ?_⟩
  · rcases List.mem_cons.mp ht with z | z
    · rw [z]; exact ⟨q4, by omega, by omega⟩
    · exact B1 t z
  · rw [List.countP_cons, B2, q3]
    rfl
  · rw [List.length_cons, List.length_append, List.length_replicate]
    omega
section
variable {tl : Nat} {b : Nat → Nat} {x m s : Nat} {ds0 : List (Nat × Nat)} {a o : Bool}
/-- nots are said -/
theorem qg_nots (hm : m ≤ 2370) {k : Nat} : ∀ (j n i : Nat) (u : zHM) (ds : List (Nat × Nat)), i + j = k → k ≤ 8 → j < n → ds.length + j ≤ 300 → qg_K m u ds → ∃ u', zM_asks_L105 n (nI k) (nI i) u = some (nI 0, u') ∧ qg_K m u' (qg_em (List.replicate j 20) ds) ∧ qg_fu m u u' ∧ u'.1 83 19 = u.1 83 19
  | 0, n + 1, i, u, ds, hi, _, _, _, K => by
    have : i = k := by omega
    subst this
    refine ⟨u, ?_, K, qg_fu.rf m u, rfl⟩
    simp (disch := omega) only [↓reduceIte, zM_asks_L105, qa_ltF, qa_lit]
  | j + 1, n + 1, i, u, ds, hi, hk, hn, hd, K => by
    obtain ⟨c1, c2, c3⟩ := id K
    have em : ∃ u1, zM_emit (nI 20) (nI 0) u = some u1 ∧ qg_K m u1 ((20, 0) :: ds) ∧ qg_fu m u u1 ∧ u1.1 83 19 = u.1 83 19 := by
      refine ⟨((va_up (va_up u.1 86 (upd (upd (u.1 86) (m + 185 + 2 * ds.length) (nI 20)) (m + 185 + 2 * ds.length + 1) (nI 0))) 83 (upd (u.1 83) 15 (nI (ds.length + 1))), u.2) : zHM), ?_, ⟨by simp (disch := omega) only [↓reduceIte, ↓qa_b, qa_b, qa_lit, qa_neg1, qa_qN, nI_add, pk_mul, qa_ix, qa_cl, qa_ltT, qa_ltF, qa_eqT, qa_eqF, qa_nN, qa_Nn, qa_ltN, qa_Nlt, qa_NN, qa_ltNN, qa_sub, qa_dec, qa_dec0, qa_sub0, qa_incN, qa_31, qa_shr, qa_shl, qa_and1, va_up_self, qa_une, pk_us, pk_un, qa_up2, qa_upd2, Option.bind_some, if_true, if_false, and_true, true_and, and_self, qa_f1, qa_f2]; exact c1, by simp (disch := omega) only [↓reduceIte, ↓qa_b, qa_b, qa_lit, qa_neg1, qa_qN, nI_add, pk_mul, qa_ix, qa_cl, qa_ltT, qa_ltF, qa_eqT, qa_eqF, qa_nN, qa_Nn, qa_ltN, qa_Nlt, qa_NN, qa_ltNN, qa_sub, qa_dec, qa_dec0, qa_sub0, qa_incN, qa_31, qa_shr, qa_shl, qa_and1, va_up_self, qa_une, pk_us, pk_un, qa_up2, qa_upd2, Option.bind_some, if_true, if_false, and_true, true_and, and_self, qa_f1, qa_f2]; rfl, ?_⟩, ⟨fun c p1 p2 p3 => by simp (disch := omega) only [↓reduceIte, ↓qa_b, qa_b, qa_lit, qa_neg1, qa_qN, nI_add, pk_mul, qa_ix, qa_cl, qa_ltT, qa_ltF, qa_eqT, qa_eqF, qa_nN, qa_Nn, qa_ltN, qa_Nlt, qa_NN, qa_ltNN, qa_sub, qa_dec, qa_dec0, qa_sub0, qa_incN, qa_31, qa_shr, qa_shl, qa_and1, va_up_self, qa_une, pk_us, pk_un, qa_up2, qa_upd2, Option.bind_some, if_true, if_false, and_true, true_and, and_self, qa_f1, qa_f2], fun j p1 p2 p3 p4 => by simp (disch := omega) only [↓reduceIte, ↓qa_b, qa_b, qa_lit, qa_neg1, qa_qN, nI_add, pk_mul, qa_ix, qa_cl, qa_ltT, qa_ltF, qa_eqT, qa_eqF, qa_nN, qa_Nn, qa_ltN, qa_Nlt, qa_NN, qa_ltNN, qa_sub, qa_dec, qa_dec0, qa_sub0, qa_incN, qa_31, qa_shr, qa_shl, qa_and1, va_up_self, qa_une, pk_us, pk_un, qa_up2, qa_upd2, Option.bind_some, if_true, if_false, and_true, true_and, and_self, qa_f1, qa_f2], fun j hj => ?_, rfl⟩, by simp (disch := omega) only [↓reduceIte, ↓qa_b, qa_b, qa_lit, qa_neg1, qa_qN, nI_add, pk_mul, qa_ix, qa_cl, qa_ltT, qa_ltF, qa_eqT, qa_eqF, qa_nN, qa_Nn, qa_ltN, qa_Nlt, qa_NN, qa_ltNN, qa_sub, qa_dec, qa_dec0, qa_sub0, qa_incN, qa_31, qa_shr, qa_shl, qa_and1, va_up_self, qa_une, pk_us, pk_un, qa_up2, qa_upd2, Option.bind_some, if_true, if_false, and_true, true_and, and_self, qa_f1, qa_f2]⟩
      · simp (disch := omega) only [↓reduceIte, ↓qa_b, zM_emit, c1, c2, qa_lit, pk_mul, nI_add, qa_ix, qa_cl, qa_une, va_up_self, qa_up2]
      · simp (disch := omega) only [↓reduceIte, ↓qa_b, qa_b, qa_lit, qa_neg1, qa_qN, nI_add, pk_mul, qa_ix, qa_cl, qa_ltT, qa_ltF, qa_eqT, qa_eqF, qa_nN, qa_Nn, qa_ltN, qa_Nlt, qa_NN, qa_ltNN, qa_sub, qa_dec, qa_dec0, qa_sub0, qa_incN, qa_31, qa_shr, qa_shl, qa_and1, va_up_self, qa_une, pk_us, pk_un, qa_up2, qa_upd2, Option.bind_some, if_true, if_false, and_true, true_and, and_self, qa_f1, qa_f2]
        refine ⟨?_, ?_, ?_⟩
        · rw [pk_un (by omega), pk_us]
        · rw [pk_us]
        · exact qg_dr_u ds (by omega) (qg_dr_u ds (by omega) c3)
      · simp (disch := omega) only [↓reduceIte, ↓qa_b, qa_b, qa_lit, qa_neg1, qa_qN, nI_add, pk_mul, qa_ix, qa_cl, qa_ltT, qa_ltF, qa_eqT, qa_eqF, qa_nN, qa_Nn, qa_ltN, qa_Nlt, qa_NN, qa_ltNN, qa_sub, qa_dec, qa_dec0, qa_sub0, qa_incN, qa_31, qa_shr, qa_shl, qa_and1, va_up_self, qa_une, pk_us, pk_un, qa_up2, qa_upd2, Option.bind_some, if_true, if_false, and_true, true_and, and_self, qa_f1, qa_f2]
    obtain ⟨u1, y1, y2, y3, y4⟩ := em
    obtain ⟨u2, z1, z2, z3, z4⟩ := qg_nots hm j n (i + 1) u1 ((20, 0) :: ds) (by omega) hk (by omega) (by rw [List.length_cons]; omega) y2
    refine ⟨u2, ?_, z2, y3.tr z3, by rw [z4, y4]⟩
    rw [← z1]
    simp (disch := omega) only [↓reduceIte, zM_asks_L105, qa_ltT, qa_lit, y1, Option.bind_some, nI_add]
/-- one code more -/
theorem qg_emK (hm : m ≤ 2370) {u : zHM} {ds : List (Nat × Nat)} (K : qg_K m u ds) (hd : ds.length < 300) (e : Nat) : ∃ u1, zM_emit (nI e) (nI 0) u = some u1 ∧ qg_K m u1 ((e, 0) :: ds) ∧ qg_fu m u u1 ∧ (∀ j, j ≠ 15 → u1.1 83 j = u.1 83 j) := by
  obtain ⟨c1, c2, c3⟩ := id K
  refine ⟨((va_up (va_up u.1 86 (upd (upd (u.1 86) (m + 185 + 2 * ds.length) (nI e)) (m + 185 + 2 * ds.length + 1) (nI 0))) 83 (upd (u.1 83) 15 (nI (ds.length + 1))), u.2) : zHM), ?_, ⟨by simp (disch := omega) only [↓reduceIte, ↓qa_b, qa_b, qa_lit, qa_neg1, qa_qN, nI_add, pk_mul, qa_ix, qa_cl, qa_ltT, qa_ltF, qa_eqT, qa_eqF, qa_nN, qa_Nn, qa_ltN, qa_Nlt, qa_NN, qa_ltNN, qa_sub, qa_dec, qa_dec0, qa_sub0, qa_incN, qa_31, qa_shr, qa_shl, qa_and1, va_up_self, qa_une, pk_us, pk_un, qa_up2, qa_upd2, Option.bind_some, if_true, if_false, and_true, true_and, and_self, qa_f1, qa_f2]; exact c1, by simp (disch := omega) only [↓reduceIte, ↓qa_b, qa_b, qa_lit, qa_neg1, qa_qN, nI_add, pk_mul, qa_ix, qa_cl, qa_ltT, qa_ltF, qa_eqT, qa_eqF, qa_nN, qa_Nn, qa_ltN, qa_Nlt, qa_NN, qa_ltNN, qa_sub, qa_dec, qa_dec0, qa_sub0, qa_incN, qa_31, qa_shr, qa_shl, qa_and1, va_up_self, qa_une, pk_us, pk_un, qa_up2, qa_upd2, Option.bind_some, if_true, if_false, and_true, true_and, and_self, qa_f1, qa_f2]; rfl, ?_⟩, ⟨fun c p1 p2 p3 => by simp (disch := omega) only [↓reduceIte, ↓qa_b, qa_b, qa_lit, qa_neg1, qa_qN, nI_add, pk_mul, qa_ix, qa_cl, qa_ltT, qa_ltF, qa_eqT, qa_eqF, qa_nN, qa_Nn, qa_ltN, qa_Nlt, qa_NN, qa_ltNN, qa_sub, qa_dec, qa_dec0, qa_sub0, qa_incN, qa_31, qa_shr, qa_shl, qa_and1, va_up_self, qa_une, pk_us, pk_un, qa_up2, qa_upd2, Option.bind_some, if_true, if_false, and_true, true_and, and_self, qa_f1, qa_f2], fun j p1 p2 p3 p4 => by simp (disch := omega) only [↓reduceIte, ↓qa_b, qa_b, qa_lit, qa_neg1, qa_qN, nI_add, pk_mul, qa_ix, qa_cl, qa_ltT, qa_ltF, qa_eqT, qa_eqF, qa_nN, qa_Nn, qa_ltN, qa_Nlt, qa_NN, qa_ltNN, qa_sub, qa_dec, qa_dec0, qa_sub0, qa_incN, qa_31, qa_shr, qa_shl, qa_and1, va_up_self, qa_une, pk_us, pk_un, qa_up2, qa_upd2, Option.bind_some, if_true, if_false, and_true, true_and, and_self, qa_f1, qa_f2], fun j hj => ?_, rfl⟩, fun j hj => by simp (disch := omega) only [↓reduceIte, ↓qa_b, qa_b, qa_lit, qa_neg1, qa_qN, nI_add, pk_mul, qa_ix, qa_cl, qa_ltT, qa_ltF, qa_eqT, qa_eqF, qa_nN, qa_Nn, qa_ltN, qa_Nlt, qa_NN, qa_ltNN, qa_sub, qa_dec, qa_dec0, qa_sub0, qa_incN, qa_31, qa_shr, qa_shl, qa_and1, va_up_self, qa_une, pk_us, pk_un, qa_up2, qa_upd2, Option.bind_some, if_true, if_false, and_true, true_and, and_self, qa_f1, qa_f2]⟩
  · simp (disch := omega) only [↓reduceIte, ↓qa_b, zM_emit, c1, c2, qa_lit, pk_mul, nI_add, qa_ix, qa_cl, qa_une, va_up_self, qa_up2]
  · simp (disch := omega) only [↓reduceIte, ↓qa_b, qa_b, qa_lit, qa_neg1, qa_qN, nI_add, pk_mul, qa_ix, qa_cl, qa_ltT, qa_ltF, qa_eqT, qa_eqF, qa_nN, qa_Nn, qa_ltN, qa_Nlt, qa_NN, qa_ltNN, qa_sub, qa_dec, qa_dec0, qa_sub0, qa_incN, qa_31, qa_shr, qa_shl, qa_and1, va_up_self, qa_une, pk_us, pk_un, qa_up2, qa_upd2, Option.bind_some, if_true, if_false, and_true, true_and, and_self, qa_f1, qa_f2]
    refine ⟨?_, ?_, ?_⟩
    · rw [pk_un (by omega), pk_us]
    · rw [pk_us]
    · exact qg_dr_u ds (by omega) (qg_dr_u ds (by omega) c3)
  · simp (disch := omega) only [↓reduceIte, ↓qa_b, qa_b, qa_lit, qa_neg1, qa_qN, nI_add, pk_mul, qa_ix, qa_cl, qa_ltT, qa_ltF, qa_eqT, qa_eqF, qa_nN, qa_Nn, qa_ltN, qa_Nlt, qa_NN, qa_ltNN, qa_sub, qa_dec, qa_dec0, qa_sub0, qa_incN, qa_31, qa_shr, qa_shl, qa_and1, va_up_self, qa_une, pk_us, pk_un, qa_up2, qa_upd2, Option.bind_some, if_true, if_false, and_true, true_and, and_self, qa_f1, qa_f2]
theorem qg_asks (hx : x ≤ 41) (hm : m ≤ 2370) (hs : s < 3) {h0 : Nat → Nat → Int32} {u0 : zHM} {c : Nat} (hc : c < 50) (e0 : h0 x 0 = nI c) : ∀ (N n n' v4 k : Nat) (h : Nat → Nat → Int32) (u : zHM) (sp nx T : Nat) (lw : List (Nat × Nat)), tl - sp ≤ N → N ≤ 300 → N + 1 < n → N < n' → v4 ≤ sp → qg_A tl b x m s ds0 a o k h u sp nx T lw → qg_FH x h0 h → qg_FU m u0 u →
    (∃ f p, 1 ≤ f ∧ f ≤ 6 ∧ qg_XC x h0 (zR_readLaw_L36 n x (nI (s + 3)) (nI 0) (nI v4) h) f p ∧ qg_XM m u0 (zM_asks_L2 n' (nI k) u) f p) ∨
    (∃ n2 v4' h' u' sp' nx' T' lw' seg T1 k', zR_readLaw_L36 n x (nI (s + 3)) (nI 0) (nI v4) h = zR_readLaw_L36 n2 x (nI (s + 3)) (nI 0) (nI v4') h' ∧ zM_asks_L2 n' (nI k) u = some (nI 0, u') ∧ qg_E tl b x m s ds0 a o h' u' sp' nx' T' lw' seg T1 k' ∧ qg_FH x h0 h' ∧ qg_FU m u0 u' ∧ tl - sp' + 1 < n2 ∧ v4' ≤ sp' ∧ sp < sp') := by
  intro N
  induction N using Nat.strongRecOn with
  | _ N IH =>
    intro n n' v4 k h u sp nx T lw hN hN3 hn hn' hv A FH FU
    obtain ⟨S, C, K, ⟨m19, k8⟩, gr, gn, gl, g21⟩ := id A
    have R := S.2.2.2.2.1
    have e3 := S.2.2.2.1.1
    have t37 := S.2.2.2.1.2
    have spl : sp ≤ nx ∧ nx ≤ tl ∧ tl ≤ 300 := ⟨S.2.2.2.2.2.2.1, S.2.2.2.2.2.2.2.1, S.1.2.2.1⟩
    have c10 : h 55 1 = nI 0 := C.2.2.2.2.2.2.2
    have c7 : h 55 7 = nI 0 := C.2.2.2.2.1
    obtain ⟨bl, -, -⟩ := qg_b0l a o
    obtain ⟨hB, hB4⟩ := qg_Bk k a o
    have wn := qt_isWordM R (j := 2) (by omega)
    have wq := qt_W.1
    obtain ⟨n1, hn1⟩ : ∃ n1, n = n1 + 1 := ⟨n - 1, by omega⟩
    obtain ⟨n1', hn1'⟩ : ∃ n1, n' = n1 + 1 := ⟨n' - 1, by omega⟩
    subst hn1
    subst hn1'
    have wsl : (List.replicate k 2 ++ qg_b0 a o).length = k + (qg_b0 a o).length := by rw [List.length_append, List.length_replicate]
    by_cases t2 : T = 2
    · rw [decide_eq_true t2] at wn
      have spnx := S.2.2.2.2.2.2.2.2 (by omega)
      by_cases k7 : k < 8
      · obtain ⟨h1, a1, a2, a3⟩ := qg_cN (s := s) hx S C t2 k7 (by omega)
        generalize hy : ((va_up u.1 83 (upd (u.1 83) 19 (nI (k + 1))), u.2) : zHM) = y
        have y0 : ∀ c, c ≠ 83 → y.1 c = u.1 c := fun c q => by subst hy; simp (disch := omega) only [↓reduceIte, ↓qa_b, qa_b, qa_lit, qa_neg1, qa_qN, nI_add, pk_mul, qa_ix, qa_cl, qa_ltT, qa_ltF, qa_eqT, qa_eqF, qa_nN, qa_Nn, qa_ltN, qa_Nlt, qa_NN, qa_ltNN, qa_sub, qa_dec, qa_dec0, qa_sub0, qa_incN, qa_31, qa_shr, qa_shl, qa_and1, va_up_self, qa_une, pk_us, pk_un, qa_up2, qa_upd2, Option.bind_some, if_true, if_false, and_true, true_and, and_self, qa_f1, qa_f2]
        have y83 : y.1 83 = upd (u.1 83) 19 (nI (k + 1)) := by subst hy; simp (disch := omega) only [↓reduceIte, ↓qa_b, qa_b, qa_lit, qa_neg1, qa_qN, nI_add, pk_mul, qa_ix, qa_cl, qa_ltT, qa_ltF, qa_eqT, qa_eqF, qa_nN, qa_Nn, qa_ltN, qa_Nlt, qa_NN, qa_ltNN, qa_sub, qa_dec, qa_dec0, qa_sub0, qa_incN, qa_31, qa_shr, qa_shl, qa_and1, va_up_self, qa_une, pk_us, pk_un, qa_up2, qa_upd2, Option.bind_some, if_true, if_false, and_true, true_and, and_self, qa_f1, qa_f2]
        have y2 : y.2 = u.2 := by subst hy; rfl
        have fy : qg_fu m u y := ⟨fun c p1 p2 p3 => y0 c p1, fun j p1 p2 p3 p4 => by rw [y83, pk_un p3], fun j _ => by rw [y0 86 (by omega)], y2⟩
        have S1 := qg_S_t hx a3 fy S
        obtain ⟨h2, u2, sp', nx', T', d1, d2, d3, d4, d5⟩ := qt_go S1
        have spl' : sp' ≤ nx' ∧ nx' ≤ tl := ⟨d3.2.2.2.2.2.2.1, d3.2.2.2.2.2.2.2.1⟩
        have A2 : qg_A tl b x m s ds0 a o (k + 1) h2 u2 sp' nx' T' lw := ⟨d3, qg_C_t hx d5.1 a2, ⟨by rw [d5.2.2 13 (by omega) (by omega) (by omega) (by omega), y83, pk_un (by omega)]; exact K.1, by rw [d5.2.2 15 (by omega) (by omega) (by omega) (by omega), y83, pk_un (by omega)]; exact K.2.1, by rw [d5.2.1 86 (by omega), y0 86 (by omega)]; exact K.2.2⟩, ⟨by rw [d5.2.2 19 (by omega) (by omega) (by omega) (by omega), y83, pk_us], by omega⟩, gr, gn, by omega, by rw [d5.2.2 21 (by omega) (by omega) (by omega) (by omega), y83, pk_un (by omega)]; exact g21⟩
        have ih := IH (N - 1) (by omega) n1 n1' (v4 + 1) (k + 1) h2 u2 sp' nx' T' lw (by omega) (by omega) (by omega) (by omega) (by omega) A2 ((FH.tr a3.F).tr (qt_fr.H hx d5)) ((FU.tr fy.F).tr (qt_fr.U d5))
        have l36 : zR_readLaw_L36 (n1 + 1) x (nI (s + 3)) (nI 0) (nI v4) h = zR_readLaw_L36 n1 x (nI (s + 3)) (nI 0) (nI (v4 + 1)) h2 := by
          have z7 : h1 55 7 = nI 0 := a2.2.2.2.2.1
          have z1 : h1 55 1 = nI 0 := a2.2.2.2.2.2.2.2
          simp (disch := omega) only [↓reduceIte, zR_readLaw_L36.eq_2, zR_readLaw_J78, zR_readLaw_J79, qa_lit, qa_ltF, c10, c7, a1, Option.bind_some]
          simp (disch := omega) only [↓reduceIte, zR_readLaw_J101, zR_readLaw_J118, z7, z1, qa_lit, d1, Option.bind_some, nI_add]
        have as2 : zM_asks_L2 (n1' + 1) (nI k) u = zM_asks_L2 n1' (nI (k + 1)) u2 := by
          simp (disch := omega) only [↓reduceIte, ↓qa_b, zM_asks_L2.eq_2, qa_lit, wq, wn, qs_b0, Bool.true_eq_false, m19, qa_eqF, nI_add, hy, d2, Option.bind_some]
        rw [l36, as2]
        rcases ih with ih | ⟨n2, v4', h', u', sp2, nx2, T2, lw2, seg, T1, k', r1, r2, r3, r4, r5, r6, r7, r8⟩
        · exact Or.inl ih
        · exact Or.inr ⟨n2, v4', h', u', sp2, nx2, T2, lw2, seg, T1, k', r1, r2, r3, r4, r5, r6, r7, by omega⟩
      · left
        have k8' : k = 8 := by omega
        subst k8'
        obtain ⟨g, g1, g2, g3, g4⟩ := qg_cN3 (s := s) S C t2
        refine ⟨3, sp, by omega, by omega, qg_badO hx hs (by omega) (by omega) C g1 g2 g3 g4 hc e0 FH (by omega) (by omega), u, ?_, S.2.2.1.2, FU⟩
        simp (disch := omega) only [↓reduceIte, ↓qa_b, zM_asks_L2.eq_2, qa_lit, wq, wn, qs_b0, Bool.true_eq_false, m19]
    · rw [decide_eq_false t2] at wn
      -- the first sum
      generalize hy : ((va_up u.1 83 (upd (upd (u.1 83) 18 (nI 0)) 20 (nI 0)), u.2) : zHM) = y
      have y0 : ∀ c, c ≠ 83 → y.1 c = u.1 c := fun c q => by subst hy; simp (disch := omega) only [↓reduceIte, ↓qa_b, qa_b, qa_lit, qa_neg1, qa_qN, nI_add, pk_mul, qa_ix, qa_cl, qa_ltT, qa_ltF, qa_eqT, qa_eqF, qa_nN, qa_Nn, qa_ltN, qa_Nlt, qa_NN, qa_ltNN, qa_sub, qa_dec, qa_dec0, qa_sub0, qa_incN, qa_31, qa_shr, qa_shl, qa_and1, va_up_self, qa_une, pk_us, pk_un, qa_up2, qa_upd2, Option.bind_some, if_true, if_false, and_true, true_and, and_self, qa_f1, qa_f2]
      have y83 : y.1 83 = upd (upd (u.1 83) 18 (nI 0)) 20 (nI 0) := by subst hy; simp (disch := omega) only [↓reduceIte, ↓qa_b, qa_b, qa_lit, qa_neg1, qa_qN, nI_add, pk_mul, qa_ix, qa_cl, qa_ltT, qa_ltF, qa_eqT, qa_eqF, qa_nN, qa_Nn, qa_ltN, qa_Nlt, qa_NN, qa_ltNN, qa_sub, qa_dec, qa_dec0, qa_sub0, qa_incN, qa_31, qa_shr, qa_shl, qa_and1, va_up_self, qa_une, pk_us, pk_un, qa_up2, qa_upd2, Option.bind_some, if_true, if_false, and_true, true_and, and_self, qa_f1, qa_f2]
      have y2 : y.2 = u.2 := by subst hy; rfl
      have fy : qg_fu m u y := ⟨fun c p1 p2 p3 => y0 c p1, fun j p1 p2 p3 p4 => by rw [y83, pk_un p4, pk_un p2], fun j _ => by rw [y0 86 (by omega)], y2⟩
      have sm : zM_summed u = zM_summed_L10 am_N y := by
        rw [← hy]
        simp (disch := omega) only [↓qa_b, zM_summed, qa_lit, qa_f1, va_up_self, qa_up2]
      have Zs : qg_Z tl b x m s ds0 (List.replicate k 2 ++ qg_b0 a o) k (qg_b0 a o).length false h y sp nx T lw [] k false true := ⟨qg_S_t hx (qg_fh.rf x h) fy S, C, ⟨⟨by rw [y83, pk_un (by omega), pk_un (by omega)]; exact K.1, by rw [y83, pk_un (by omega), pk_un (by omega)]; exact K.2.1, by rw [y0 86 (by omega)]; exact K.2.2⟩, ⟨by rw [y83, pk_un (by omega), pk_us]; rfl, trivial⟩, by rw [y83, pk_un (by omega), pk_un (by omega)]; exact m19, by rw [y83, pk_us]; rfl⟩, ⟨trivial, by rw [show qg_o [] = 0 from rfl]; omega, k8⟩, gr, gn, by rw [wsl, List.length_nil]; omega, by rw [y83, pk_un (by omega), pk_un (by omega)]; exact g21⟩
      have s1 := qg_sum hx hm hs bl hB hc e0 N (n1 + 1) am_N v4 h y sp nx T lw [] k false true hN hn (Nat.lt_of_le_of_lt hN3 (by decide)) hv Zs (fun _ => ⟨rfl, t2⟩) FH (FU.tr fy.F)
      rcases s1 with ⟨f, p, f1, f6, x1, u1, x2, x3, x4⟩ | ⟨n2, v4', h', ub, u', sp', nx', T', lw', seg, op', r1, r2, r3, r4, r5, r6, r7, r8, r9, r10, r11, r12⟩
      · left
        refine ⟨f, p, f1, f6, x1, u1, ?_, x3, x4⟩
        simp (disch := omega) only [↓reduceIte, ↓qa_b, zM_asks_L2.eq_2, qa_lit, wq, wn, qs_b0, sm, x2, Option.bind_some, qa_eqF]
      · obtain ⟨L1, L2, L3, L4, L5, L6, L7⟩ := qg_Z_len r3 hB
        obtain ⟨S', C', M', ⟨G', go', go8'⟩, gr', gn', gl', g21'⟩ := id r3
        obtain ⟨sg1, sg2, sg3⟩ := qg_seg0 seg r4
        rw [sg2] at C'
        rw [sg1, Nat.zero_add] at go'
        rw [sg3] at gr'
        subst go'
        have spl' : sp' ≤ nx' ∧ nx' ≤ tl := ⟨S'.2.2.2.2.2.2.1, S'.2.2.2.2.2.2.2.1⟩
        have Su : qt_S tl b h' u' sp' nx' T' := qg_S_t hx (qg_fh.rf x h') r7 S'
        have cmpO := qt_cmpO Su.2.2.2.2.1
        have asE : zM_asks_L2 (n1' + 1) (nI op') u = (am_b (zM_compareOf u') fun r6 => if r6 < 0 then (some ((1, u'))) else ((zM_nextToken u').bind fun r8 => (zM_summed r8).bind fun r9 => if r9.1 = 0 then ((zM_emit r6 0 r9.2).bind fun r11 => am_b ((va_up r11.1 83 (upd (r11.1 83) 19 ((r11.1 83 19) - nI op')), r11.2)) fun w12 => zM_asks_L105 am_N (nI op') 0 w12) else (some ((r9.1, r9.2))))) := by
          simp (disch := omega) only [↓reduceIte, zM_asks_L2.eq_2, qa_b, qa_lit, wq, wn, qs_b0, sm, r2, Option.bind_some]
        have e3' := S'.2.2.2.1.1
        have t37' := S'.2.2.2.1.2
        have c10' : h' 55 1 = nI 0 := C'.2.2.2.2.2.2.2
        have c7' : h' 55 7 = nI 1 := C'.2.2.2.2.1
        by_cases hT : 21 ≤ T' ∧ T' ≤ 26
        · rw [if_pos hT] at cmpO
          have spnx := S'.2.2.2.2.2.2.2.2 (by omega)
          obtain ⟨h1, a1, a2, a3⟩ := qg_cC hx S' hB r4 C' hT hB4 (by omega) (by omega) L3 L4 (by omega)
          rw [qg_em_app] at a2
          have S1 := qg_S_t hx a3 (qg_fu.rf m u') Su
          obtain ⟨h2, u2, sp2, nx2, T2, d1, d2, d3, d4, d5⟩ := qt_go S1
          obtain ⟨n3, hn3⟩ : ∃ n3, n2 = n3 + 1 := ⟨n2 - 1, by omega⟩
          subst hn3
          have l36 : zR_readLaw_L36 (n3 + 1) x (nI (s + 3)) (nI 0) (nI v4') h' = zR_readLaw_L36 n3 x (nI (s + 3)) (nI 0) (nI (v4' + 1)) h2 := by
            have z7 : h1 55 7 = nI 0 := a2.2.2.2.2.1
            have z1 : h1 55 1 = nI 0 := a2.2.2.2.2.2.2.2
            simp (disch := omega) only [↓reduceIte, zR_readLaw_L36.eq_2, zR_readLaw_J78, zR_readLaw_J79, qa_lit, qa_ltF, c10', c7', qa_eqF, e3', a1, Option.bind_some]
            simp (disch := omega) only [↓reduceIte, zR_readLaw_J101, zR_readLaw_J118, z7, z1, qa_lit, d1, Option.bind_some, nI_add]
          -- the second sum
          generalize hz : ((va_up u2.1 83 (upd (upd (u2.1 83) 18 (nI 0)) 20 (nI 0)), u2.2) : zHM) = z
          have z0 : ∀ c, c ≠ 83 → z.1 c = u2.1 c := fun c q => by subst hz; simp (disch := omega) only [↓reduceIte, ↓qa_b, qa_b, qa_lit, qa_neg1, qa_qN, nI_add, pk_mul, qa_ix, qa_cl, qa_ltT, qa_ltF, qa_eqT, qa_eqF, qa_nN, qa_Nn, qa_ltN, qa_Nlt, qa_NN, qa_ltNN, qa_sub, qa_dec, qa_dec0, qa_sub0, qa_incN, qa_31, qa_shr, qa_shl, qa_and1, va_up_self, qa_une, pk_us, pk_un, qa_up2, qa_upd2, Option.bind_some, if_true, if_false, and_true, true_and, and_self, qa_f1, qa_f2]
          have z83 : z.1 83 = upd (upd (u2.1 83) 18 (nI 0)) 20 (nI 0) := by subst hz; simp (disch := omega) only [↓reduceIte, ↓qa_b, qa_b, qa_lit, qa_neg1, qa_qN, nI_add, pk_mul, qa_ix, qa_cl, qa_ltT, qa_ltF, qa_eqT, qa_eqF, qa_nN, qa_Nn, qa_ltN, qa_Nlt, qa_NN, qa_ltNN, qa_sub, qa_dec, qa_dec0, qa_sub0, qa_incN, qa_31, qa_shr, qa_shl, qa_and1, va_up_self, qa_une, pk_us, pk_un, qa_up2, qa_upd2, Option.bind_some, if_true, if_false, and_true, true_and, and_self, qa_f1, qa_f2]
          have z2 : z.2 = u2.2 := by subst hz; rfl
          have fz : qg_fu m u2 z := ⟨fun c p1 p2 p3 => z0 c p1, fun j p1 p2 p3 p4 => by rw [z83, pk_un p4, pk_un p2], fun j _ => by rw [z0 86 (by omega)], z2⟩
          have sm2 : zM_summed u2 = zM_summed_L10 am_N z := by
            rw [← hz]
            simp (disch := omega) only [↓qa_b, zM_summed, qa_lit, qa_f1, va_up_self, qa_up2]
          have hB2 := qg_Bc (k := op') hT a o
          have spl2 : sp2 ≤ nx2 ∧ nx2 ≤ tl := ⟨d3.2.2.2.2.2.2.1, d3.2.2.2.2.2.2.2.1⟩
          have M2 := qg_M_t d5 r6
          have Z2 : qg_Z tl b x m s ds0 (T' :: (List.replicate op' 2 ++ qg_b0 a o)) op' (qg_b0 a o).length true h2 z sp2 nx2 T2 (qg_em seg lw') [] op' false false := ⟨qg_S_t hx (qg_fh.rf x h2) fz d3, qg_C_t hx d5.1 a2, ⟨⟨by rw [z83, pk_un (by omega), pk_un (by omega)]; exact M2.1.1, by rw [z83, pk_un (by omega), pk_un (by omega)]; exact M2.1.2.1, by rw [z0 86 (by omega)]; exact M2.1.2.2⟩, ⟨by rw [z83, pk_un (by omega), pk_us]; rfl, trivial⟩, by rw [z83, pk_un (by omega), pk_un (by omega)]; exact M2.2.2.1, by rw [z83, pk_us]; rfl⟩, ⟨trivial, by rw [show qg_o [] = 0 from rfl]; omega, by omega⟩, by
              have := qg_rn_bin seg lw' _ r4 (by simp; omega) gr'
              rw [this]
              simp [qg_bi], fun q hq => by
              rcases qg_em_mem _ _ hq with w | ⟨e', w1, w2⟩
              · exact gn' q w
              · rw [w2]
                exact qg_nm_e (by have := r4 e' w1; omega), by
              rw [List.length_append, qg_em_len, List.length_nil, List.length_cons, wsl]
              rw [List.length_append] at gl'
              rw [wsl] at gl'
              omega, by rw [z83, pk_un (by omega), pk_un (by omega), d5.2.2 21 (by omega) (by omega) (by omega) (by omega), r7.2.1 21 (by omega) (by omega) (by omega) (by omega)]; exact g21'⟩
          have FH2 := (r8.tr a3.F).tr (qt_fr.H hx d5)
          have FU2 := ((r9.tr r7.F).tr (qt_fr.U d5)).tr fz.F
          have s2 := qg_sum hx hm hs bl hB2 hc e0 (tl - sp2) n3 am_N (v4' + 1) h2 z sp2 nx2 T2 (qg_em seg lw') [] op' false false (Nat.le_refl _) (by omega) (Nat.lt_of_le_of_lt (show tl - sp2 ≤ 300 by omega) (by decide)) (by omega) Z2 (fun q => by cases q) FH2 FU2
          rw [r1, l36]
          rcases s2 with ⟨f, p, f1, f6, x1, u3, x2, x3, x4⟩ | ⟨n4, v5, h4, ub4, u4, sp4, nx4, T4, lw4, seg4, op4, q1, q2, q3, q4, q5, q6, q7, q8, q9, q10, q11, q12⟩
          · left
            refine ⟨f, p, f1, f6, x1, u3, ?_, x3, x4⟩
            rw [asE]
            simp (disch := omega) only [↓reduceIte, ↓qa_b, cmpO, qa_lit, qa_ltF, d2, Option.bind_some, sm2, x2, qa_eqF]
          · right
            obtain ⟨S4, C4, M4, ⟨G4, go4, go84⟩, gr4, gn4, gl4, g214⟩ := id q3
            obtain ⟨sh1, sh2, sh3⟩ := qg_seg0 seg4 q4
            obtain ⟨K1, K2, K3, K4, K5, K6, K7⟩ := qg_Z_len q3 hB2
            rw [sh2] at C4
            rw [sh1, Nat.zero_add] at go4
            rw [sh3] at gr4
            subst go4
            have spl4 : sp4 ≤ nx4 ∧ nx4 ≤ tl := ⟨S4.2.2.2.2.2.2.1, S4.2.2.2.2.2.2.2.1⟩
            rw [List.length_cons, wsl] at gl4
            have el4 : (qg_em seg4 lw4 ++ ds0).length = (lw4 ++ ds0).length + seg4.length := by rw [List.length_append, qg_em_len, List.length_append]; omega
            obtain ⟨u5, g1, g2, g3, g4⟩ := qg_emK hm (u := u4) (ds := qg_em seg4 lw4 ++ ds0) q6.1 (by omega) (T' - 11)
            generalize hw6 : ((va_up u5.1 83 (upd (u5.1 83) 19 (nI 0)), u5.2) : zHM) = u6
            have v60 : ∀ c, c ≠ 83 → u6.1 c = u5.1 c := fun c q => by subst hw6; simp (disch := omega) only [↓reduceIte, ↓qa_b, qa_b, qa_lit, qa_neg1, qa_qN, nI_add, pk_mul, qa_ix, qa_cl, qa_ltT, qa_ltF, qa_eqT, qa_eqF, qa_nN, qa_Nn, qa_ltN, qa_Nlt, qa_NN, qa_ltNN, qa_sub, qa_dec, qa_dec0, qa_sub0, qa_incN, qa_31, qa_shr, qa_shl, qa_and1, va_up_self, qa_une, pk_us, pk_un, qa_up2, qa_upd2, Option.bind_some, if_true, if_false, and_true, true_and, and_self, qa_f1, qa_f2]
            have v683 : u6.1 83 = upd (u5.1 83) 19 (nI 0) := by subst hw6; simp (disch := omega) only [↓reduceIte, ↓qa_b, qa_b, qa_lit, qa_neg1, qa_qN, nI_add, pk_mul, qa_ix, qa_cl, qa_ltT, qa_ltF, qa_eqT, qa_eqF, qa_nN, qa_Nn, qa_ltN, qa_Nlt, qa_NN, qa_ltNN, qa_sub, qa_dec, qa_dec0, qa_sub0, qa_incN, qa_31, qa_shr, qa_shl, qa_and1, va_up_self, qa_une, pk_us, pk_un, qa_up2, qa_upd2, Option.bind_some, if_true, if_false, and_true, true_and, and_self, qa_f1, qa_f2]
            have v62 : u6.2 = u5.2 := by subst hw6; rfl
            have f6 : qg_fu m u5 u6 := ⟨fun c p1 p2 p3 => v60 c p1, fun j p1 p2 p3 p4 => by rw [v683, pk_un p3], fun j _ => by rw [v60 86 (by omega)], v62⟩
            obtain ⟨u7, i1, i2, i3, i4⟩ := qg_nots hm (k := op4) op4 am_N 0 u6 ((T' - 11, 0) :: (qg_em seg4 lw4 ++ ds0)) (by omega) (by omega) (Nat.lt_of_le_of_lt (show op4 ≤ 8 by omega) (by decide)) (by rw [List.length_cons]; omega) ⟨by rw [v683, pk_un (by omega)]; exact g2.1, by rw [v683, pk_un (by omega)]; exact g2.2.1, by rw [v60 86 (by omega)]; exact g2.2.2⟩
            have ff := ((q7.tr g3).tr f6).tr i3
            refine ⟨n4, v5, h4, u7, sp4, nx4, T4, lw4, seg4, T', op4, q1, ?_, ⟨qg_S_t hx (qg_fh.rf x h4) ff S4, C4, ?_, ⟨by rw [i4, v683, pk_us], by omega⟩, ?_, gn4, by omega, by rw [ff.2.1 21 (by omega) (by omega) (by omega) (by omega)]; exact g214, hT, q4, K1, q5⟩, q8, q9.tr ff.F, q10, q11, by omega⟩
            · have e19 : u5.1 83 19 = nI op4 := by rw [g4 19 (by omega)]; exact q6.2.2.1
              have es : nI op4 - nI op4 = nI 0 := by rw [qa_sub (Nat.le_refl _), Nat.sub_self]
              rw [asE]
              simp (disch := omega) only [↓reduceIte, ↓qa_b, cmpO, qa_lit, qa_ltF, d2, Option.bind_some, sm2, q2, g1, e19, es, hw6, i1]
            · rw [qg_em_em, qg_em_em]
              rw [show (T' - 11, 0) :: (qg_em seg4 lw4 ++ ds0) = ((T' - 11, 0) :: qg_em seg4 lw4) ++ ds0 from rfl, qg_em_app] at i2
              exact i2
            · rw [gr4]
              rfl
        · left
          rw [if_neg hT] at cmpO
          refine ⟨1, sp', by omega, by omega, ?_, u', ?_, Su.2.2.1.2, r9.tr r7.F⟩
          · rw [r1]
            obtain ⟨n3, hn3⟩ : ∃ n3, n2 = n3 + 1 := ⟨n2 - 1, by omega⟩
            subst hn3
            refine qg_bad hx hs S' C' (by omega) (by omega) (fun t' ht' => ⟨qg_w39 (L3 t' (List.mem_of_mem_head? ht')), ?_⟩) r5 (fun q => by omega) (fun q => hT ⟨q.1, q.2.1⟩) (fun q => by cases q.2.2) hc e0 r8 (by omega) (by omega)
            cases hsg : seg with
            | nil =>
              rw [hsg, List.map_nil, List.nil_append] at ht'
              have := hB4 t' (List.mem_of_mem_head? ht')
              omega
            | cons e l =>
              rw [hsg, List.map_cons, List.cons_append, List.head?_cons] at ht'
              have e36 := r4 e (by rw [hsg]; exact List.mem_cons_self)
              rw [← Option.some.inj ht']
              rcases (show e = 3 ∨ e = 4 ∨ e = 5 ∨ e = 6 by omega) with rfl | rfl | rfl | rfl <;> decide
          · rw [asE]
            simp (disch := omega) only [↓reduceIte, ↓qa_b, cmpO, qa_lit, qa_Nlt0]
end
