/-! THE HEART: the reader: a clause, both -/
section
variable {tl : Nat} {b : Nat → Nat} {x m : Nat} {h : Nat → Nat → Int32} {u : zHM} {sp nx T c : Nat} {ds : List (Nat × Nat)} {lb : Nat}
/-- a clause: both find the same fault, or are behind it -/
theorem qg_step (hx : x ≤ 41) (hm : m ≤ 2370) (Z : qg_TS tl b x m h u sp nx T c ds lb) (hT : T ≠ 36) (n n' : Nat) (hn : 1 ≤ n) :
    (∃ f p h' u', 1 ≤ f ∧ f ≤ 6 ∧ zR_read_L23 (n + 1) x (nI c) h = some h' ∧ h' 55 1 = nI f ∧ h' 55 2 = nI p ∧ qg_VH x h h' ∧ zM_readText_L48 (n' + 1) u = some (nI f, u') ∧ u'.1 83 9 = nI p ∧ qg_VU m u u') ∨
    (∃ h' u' sp' nx' T' ds' lb', zR_read_L23 (n + 1) x (nI c) h = zR_read_L23 n x (nI (c + 1)) h' ∧ zM_readText_L48 (n' + 1) u = zM_readText_L48 n' u' ∧ qg_TS tl b x m h' u' sp' nx' T' (c + 1) ds' lb' ∧ sp < sp' ∧ qg_VH x h h' ∧ qg_VU m u u' ∧ h' 55 2 = h 55 2) := by
  obtain ⟨S, ⟨c0, m0, c50⟩, ⟨d0, dc⟩, K, dl, ok, X, ⟨l1, l2, l3⟩, m19, e1⟩ := id Z
  have R := S.2.2.2.2.1
  have e3 := S.2.2.2.1.1
  have e4 := S.2.2.1.1
  have t37 := S.2.2.2.1.2
  have spl : sp ≤ nx ∧ nx ≤ tl ∧ tl ≤ 300 := ⟨S.2.2.2.2.2.2.1, S.2.2.2.2.2.2.2.1, S.1.2.2.1⟩
  have spnx := S.2.2.2.2.2.2.2.2 hT
  have n0 : ¬ (u.1 83 10 = nI 0) := by rw [qt_is R (j := 36) (by omega) (by omega) (k := 0) rfl]; exact hT
  have so := qt_sort R
  obtain ⟨n1, hn1⟩ : ∃ n1, n = n1 + 1 := ⟨n - 1, by omega⟩
  have rd : zM_readText_L48 (n' + 1) u = ((zM_clause u).bind fun r10 => if r10.1 = nI 0 then (zM_readText_L48 n' r10.2) else (some ((r10.1, r10.2)))) := by
    simp (disch := omega) only [↓reduceIte, zM_readText_L48.eq_2, qa_lit, n0]
  -- a fault at the verb
  have bad : ∀ f, 1 ≤ f → f ≤ 6 → zR_faultOfVerb x (nI T) h = some (nI f) → zM_clause u = some (nI f, u) → (∃ f p h' u', 1 ≤ f ∧ f ≤ 6 ∧ zR_read_L23 (n + 1) x (nI c) h = some h' ∧ h' 55 1 = nI f ∧ h' 55 2 = nI p ∧ qg_VH x h h' ∧ zM_readText_L48 (n' + 1) u = some (nI f, u') ∧ u'.1 83 9 = nI p ∧ qg_VU m u u') := fun f f1 f6 q1 q2 => by
    generalize hg : va_up h 55 (upd (upd (h 55) 1 (nI f)) 2 (nI sp)) = g
    have g0 : ∀ c, c ≠ 55 → g c = h c := fun c a => by subst hg; exact qa_une _ _ a
    have g55 : g 55 = upd (upd (h 55) 1 (nI f)) 2 (nI sp) := by subst hg; exact va_up_self _ _ _
    have g1 : g 55 1 = nI f := by rw [g55, pk_un (by omega), pk_us]
    have rf := qg_rdF (x := x) (h := g) f1 f6 g1 n1 (c + 1) (by omega)
    rw [← hn1] at rf
    refine ⟨f, sp, g, u, f1, f6, ?_, g1, by rw [g55, pk_us], fun c c1 _ _ _ => g0 c c1, ?_, S.2.2.1.2, fun _ _ _ _ => rfl, fun _ _ => rfl, fun _ _ => rfl⟩
    · rw [← rf, ← hg]
      simp (disch := omega) only [↓reduceIte, ↓qa_b, zR_read_L23.eq_2, zR_refuse, qa_lit, qa_ltF, e1, e3, e4, qa_eqF, q1, Option.bind_some, qa_une, va_up_self, qa_up2, nI_add]
    · rw [rd, q2]
      simp (disch := omega) only [↓reduceIte, Option.bind_some, qa_eqF]
  by_cases t1 : 3 ≤ T ∧ T ≤ 10
  · rw [if_pos t1] at so
    obtain ⟨sr, hsr⟩ : ∃ sr, T = sr + 3 := ⟨T - 3, by omega⟩
    subst hsr
    rw [Nat.add_sub_cancel] at so
    have tb := qa_tb1 lb sr
    by_cases law : sr < 3
    · have hl := qg_has Z (by omega) law
      have isl : zR_isLaw (nI (sr + 3)) = nI 1 := by
        simp (disch := omega) only [↓reduceIte, zR_isLaw, qa_lit, qa_ltF]
      cases hb : lb.testBit sr
      · rw [hb] at hl tb
        have tbF : (nI (lb / 2 ^ sr % 2) = nI 1) = False := by rw [tb]; exact eq_false (by decide)
        have clE : zM_clause u = zM_clause_J30 (nI sr) u := by
          simp (disch := omega) only [↓reduceIte, ↓qa_b, zM_clause, so, qa_lit, qa_ltF, qa_ltT, l1, qa_31, qa_shr, qa_and1, tbF]
        by_cases c5 : c = 50
        · left
          refine bad 6 (by omega) (by omega) ?_ ?_
          · rw [c5] at c0
            simp (disch := omega) only [↓reduceIte, ↓qa_b, zR_faultOfVerb, zR_faultOfVerb_J30, isl, hl, Option.bind_some, qs_b0, qa_lit, qa_ltF, qa_eqF, c0]
          · rw [clE]
            rw [c5] at m0
            have k13 := K.1
            simp (disch := omega) only [↓reduceIte, ↓qa_b, zM_clause_J30, k13, qa_ix, qa_cl, m0, qa_lit]
        · -- a law
          have c49 : c < 50 := by omega
          obtain ⟨lb1, lb2⟩ := qg_bits lb l2 sr law
          have eL := qa_1shl (i := sr) (by omega)
          generalize hy : ((va_up u.1 83 (upd (upd (u.1 83) 22 (nI (lb ||| 2 ^ sr))) 21 (nI sr)), u.2) : zHM) = y
          have y0 : ∀ c, c ≠ 83 → y.1 c = u.1 c := fun c q => by subst hy; simp (disch := omega) only [↓reduceIte, ↓qa_b, qa_b, qa_lit, qa_neg1, qa_qN, nI_add, pk_mul, qa_ix, qa_cl, qa_ltT, qa_ltF, qa_eqT, qa_eqF, qa_nN, qa_Nn, qa_ltN, qa_Nlt, qa_NN, qa_ltNN, qa_sub, qa_dec, qa_dec0, qa_sub0, qa_incN, qa_31, qa_shr, qa_shl, qa_and1, va_up_self, qa_une, pk_us, pk_un, qa_up2, qa_upd2, Option.bind_some, if_true, if_false, and_true, true_and, and_self, qa_f1, qa_f2]
          have y83 : y.1 83 = upd (upd (u.1 83) 22 (nI (lb ||| 2 ^ sr))) 21 (nI sr) := by subst hy; simp (disch := omega) only [↓reduceIte, ↓qa_b, qa_b, qa_lit, qa_neg1, qa_qN, nI_add, pk_mul, qa_ix, qa_cl, qa_ltT, qa_ltF, qa_eqT, qa_eqF, qa_nN, qa_Nn, qa_ltN, qa_Nlt, qa_NN, qa_ltNN, qa_sub, qa_dec, qa_dec0, qa_sub0, qa_incN, qa_31, qa_shr, qa_shl, qa_and1, va_up_self, qa_une, pk_us, pk_un, qa_up2, qa_upd2, Option.bind_some, if_true, if_false, and_true, true_and, and_self, qa_f1, qa_f2]
          have y2 : y.2 = u.2 := by subst hy; rfl
          have Sy : qt_S tl b h y sp nx (sr + 3) := qt_S_f ⟨rfl, rfl⟩ (y0 87 (by omega)) (fun j hj => by rw [y83, pk_un (by omega), pk_un (by omega)]) (by rw [y2]) S
          obtain ⟨h1, u1, sp1, nx1, T1, a1, a2, a3, a4, a5⟩ := qt_go Sy
          have spl1 : sp1 ≤ nx1 ∧ nx1 ≤ tl := ⟨a3.2.2.2.2.2.2.1, a3.2.2.2.2.2.2.2.1⟩
          generalize hha : va_up (va_up h1 (x + 5) (upd (h1 (x + 5)) sr (nI ds.length))) 55 (upd (upd (upd (upd (upd (upd (h1 55) 4 (nI 0)) 5 (nI 0)) 6 (nI 0)) 9 (nI 1)) 8 (nI 0)) 7 (nI 0)) = ha
          have ha0 : ∀ c, c ≠ x + 5 → c ≠ 55 → ha c = h1 c := fun c q1 q2 => by subst hha; rw [qa_une _ _ q2, qa_une _ _ q1]
          have ha5 : ha (x + 5) = upd (h1 (x + 5)) sr (nI ds.length) := by subst hha; rw [qa_une _ _ (by omega), va_up_self]
          have ha55 : ha 55 = upd (upd (upd (upd (upd (upd (h1 55) 4 (nI 0)) 5 (nI 0)) 6 (nI 0)) 9 (nI 1)) 8 (nI 0)) 7 (nI 0) := by subst hha; rw [va_up_self]
          generalize hua : ((va_up u1.1 86 (upd (u1.1 86) (m + 1 + 3 * c) (nI sr)), u1.2) : zHM) = ua
          have ua0 : ∀ c, c ≠ 86 → ua.1 c = u1.1 c := fun c q => by subst hua; simp (disch := omega) only [↓reduceIte, ↓qa_b, qa_b, qa_lit, qa_neg1, qa_qN, nI_add, pk_mul, qa_ix, qa_cl, qa_ltT, qa_ltF, qa_eqT, qa_eqF, qa_nN, qa_Nn, qa_ltN, qa_Nlt, qa_NN, qa_ltNN, qa_sub, qa_dec, qa_dec0, qa_sub0, qa_incN, qa_31, qa_shr, qa_shl, qa_and1, va_up_self, qa_une, pk_us, pk_un, qa_up2, qa_upd2, Option.bind_some, if_true, if_false, and_true, true_and, and_self, qa_f1, qa_f2]
          have ua86 : ua.1 86 = upd (u1.1 86) (m + 1 + 3 * c) (nI sr) := by subst hua; simp (disch := omega) only [↓reduceIte, ↓qa_b, qa_b, qa_lit, qa_neg1, qa_qN, nI_add, pk_mul, qa_ix, qa_cl, qa_ltT, qa_ltF, qa_eqT, qa_eqF, qa_nN, qa_Nn, qa_ltN, qa_Nlt, qa_NN, qa_ltNN, qa_sub, qa_dec, qa_dec0, qa_sub0, qa_incN, qa_31, qa_shr, qa_shl, qa_and1, va_up_self, qa_une, pk_us, pk_un, qa_up2, qa_upd2, Option.bind_some, if_true, if_false, and_true, true_and, and_self, qa_f1, qa_f2]
          have ua2 : ua.2 = u1.2 := by subst hua; rfl
          have Sa : qt_S tl b ha ua sp1 nx1 T1 := qt_S_f ⟨ha0 56 (by omega) (by omega), ha0 57 (by omega) (by omega)⟩ (ua0 87 (by omega)) (fun j hj => by rw [ua0 83 (by omega)]) (by rw [ua2]) a3
          have u86 : ∀ j, j ≠ m + 1 + 3 * c → ua.1 86 j = u.1 86 j := fun j hj => by rw [ua86, pk_un hj, a5.2.1 86 (by omega), y0 86 (by omega)]
          have u83 : ∀ j, j ≠ 8 → j ≠ 9 → j ≠ 10 → j ≠ 11 → ua.1 83 j = y.1 83 j := fun j j1 j2 j3 j4 => by rw [ua0 83 (by omega), a5.2.2 j j1 j2 j3 j4]
          have drE : qg_dr (ua.1 86) m ds := by
            rw [ua86]
            refine qg_dr_u ds (by omega) ?_
            rw [a5.2.1 86 (by omega), y0 86 (by omega)]
            exact K.2.2
          have A : qg_A tl b x m sr ds false false 0 ha ua sp1 nx1 T1 [] := by
            refine ⟨Sa, ⟨⟨?_, ?_⟩, ⟨?_, trivial⟩, ?_, ?_, ?_, ?_, ?_, ?_⟩, ⟨?_, ?_, drE⟩, ⟨?_, by omega⟩, rfl, (fun q hq => by cases hq), ?_, ?_⟩
            · rw [ha0 x (by omega) (by omega), a5.1 x (by omega)]; exact d0
            · rw [ha0 (x + 4) (by omega) (by omega), a5.1 (x + 4) (by omega)]; exact dc
            · rw [ha55, pk_un (by omega), pk_un (by omega), pk_un (by omega), pk_un (by omega), pk_un (by omega), pk_us]; rfl
            · rw [ha55, pk_un (by omega), pk_un (by omega), pk_un (by omega), pk_un (by omega), pk_us]
            · rw [ha55, pk_un (by omega), pk_un (by omega), pk_un (by omega), pk_us]
            · rw [ha55, pk_us]; rfl
            · rw [ha55, pk_un (by omega), pk_us]; rfl
            · rw [ha55, pk_un (by omega), pk_un (by omega), pk_us]; rfl
            · rw [ha55, pk_un (by omega), pk_un (by omega), pk_un (by omega), pk_un (by omega), pk_un (by omega), pk_un (by omega), a5.1 55 (by omega)]; exact e1
            · rw [u83 13 (by omega) (by omega) (by omega) (by omega), y83, pk_un (by omega), pk_un (by omega)]; exact K.1
            · rw [u83 15 (by omega) (by omega) (by omega) (by omega), y83, pk_un (by omega), pk_un (by omega)]; exact K.2.1
            · rw [u83 19 (by omega) (by omega) (by omega) (by omega), y83, pk_un (by omega), pk_un (by omega)]; exact m19
            · rw [List.nil_append, show (qg_b0 false false).length = 0 from rfl]; omega
            · rw [u83 21 (by omega) (by omega) (by omega) (by omega), y83, pk_us]
          have VHa : ∀ h', (∀ c, c ≠ 55 → c ≠ 56 → c ≠ 58 → c < x ∨ x + 6 < c → h' c = ha c) → qg_VH x h h' := fun h' q c c1 c2 c3 c4 => by rw [q c c1 c2 c3 c4, ha0 c (by omega) c1, a5.1 c c2]
          have VUa : ∀ u', qg_FU m ua u' → qg_VU m u u' := fun u' q => ⟨fun c c1 c2 c3 => by rw [q.1 c c1 c2 c3, ua0 c c2, a5.2.1 c c1, y0 c c1], fun j hj => by rw [q.2.1 j (by omega), u83 j (by omega) (by omega) (by omega) (by omega), y83, pk_un (by omega), pk_un (by omega)], fun j hj => by rw [q.2.2 j (by omega), u86 j (by omega)]⟩
          have fv : zR_faultOfVerb x (nI (sr + 3)) h = some (nI 0) := by
            simp (disch := omega) only [↓reduceIte, ↓qa_b, zR_faultOfVerb, zR_faultOfVerb_J30, isl, hl, Option.bind_some, qs_b0, qa_lit, qa_ltF, qa_ltT, qa_eqF, c0]
          have es : nI (sr + 3) - nI 3 = nI sr := by rw [qa_sub (by omega), Nat.add_sub_cancel]
          have clsE : zR_read_L23 (n + 1) x (nI c) h = ((zR_readLaw_L36 am_N x (nI (sr + 3)) (nI 0) (nI 0) ha).bind fun r16 => zR_read_L23 n x (nI (c + 1)) r16) := by
            have d01 : h1 x 4 = nI ds.length := by rw [a5.1 x (by omega)]; exact d0
            rw [← hha]
            simp (disch := omega) only [↓reduceIte, ↓qa_b, zR_read_L23.eq_2, qa_lit, qa_ltF, e1, e3, qa_eqF, fv, isl, a1, Option.bind_some, zR_readLaw, zR_beginAsk, es, qa_ix, qa_cl, d01, qa_une, va_up_self, qa_up2, nI_add]
          have refE : zM_clause u = ((zM_either ua).bind fun r17 => zM_clause_J117 (nI sr) (nI (m + 1 + 3 * c)) (nI ds.length) r17.1 r17.2) := by
            have k13 := K.1
            have k13' : u1.1 83 13 = nI m := by rw [a5.2.2 13 (by omega) (by omega) (by omega) (by omega), y83, pk_un (by omega), pk_un (by omega)]; exact K.1
            have k15' : ua.1 83 15 = nI ds.length := by rw [u83 15 (by omega) (by omega) (by omega) (by omega), y83, pk_un (by omega), pk_un (by omega)]; exact K.2.1
            rw [clE]
            rw [← hy] at a2
            rw [← hua] at k15' ⊢
            have k15'' : va_up u1.1 86 (upd (u1.1 86) (m + 1 + 3 * c) (nI sr)) 83 15 = nI ds.length := k15'
            simp (disch := omega) only [↓reduceIte, ↓qa_b, zM_clause_J30, zM_clause_J66, k13, qa_ix, qa_cl, m0, qa_lit, qa_eqF, qa_ltT, l1, qa_31, eL, fa_or, qa_f1, va_up_self, qa_up2, a2, Option.bind_some, k13', nI_add, pk_mul, k15'']
          have eiE : zM_either ua = zM_either_L6 am_N (qs_b false) (qs_b false) (nI 1) ua := rfl
          rcases qg_law hx hm law (h0 := ha) (u0 := ua) (c := c) c49 (by rw [ha0 x (by omega) (by omega), a5.1 x (by omega)]; exact c0) (tl - sp1) am_N am_N 0 false false ha ua sp1 nx1 T1 [] (Nat.le_refl _) (by omega) (Nat.lt_of_le_of_lt (show tl - sp1 + 1 ≤ 301 by omega) (by decide)) (Nat.lt_of_le_of_lt (show tl - sp1 + 1 ≤ 301 by omega) (by decide)) (by omega) A (qg_FH.rf x ha) (qg_FU.rf m ua) with ⟨f, p, f1, f6, ⟨hf, x1, x2, x3, x4⟩, uf, z1, z2, z3⟩ | ⟨uf, p, d, ⟨hf, x1, x2, x3, x4⟩, z1, z2, z3, z4, z5, z6⟩ | ⟨n2, v4', hbb, uf, sp2, nx2, lw, z1, z2, z3, z4, z5, z6, z7, z8, z9, z10, z11, z12, z13, z14, z15⟩
          · left
            have rf := qg_rdF (x := x) (h := hf) f1 f6 x2 n1 (c + 1) (by omega)
            rw [← hn1] at rf
            refine ⟨f, p, hf, uf, f1, f6, by rw [clsE, x1, Option.bind_some, rf], x2, x3, VHa hf x4, ?_, z2, VUa uf z3⟩
            rw [rd, refE, eiE, z1]
            simp (disch := omega) only [↓reduceIte, Option.bind_some, zM_clause_J117, qa_lit, qa_eqF]
          · left
            have rf := qg_rdF (x := x) (h := hf) (f := 1) (by omega) (by omega) x2 n1 (c + 1) (by omega)
            rw [← hn1] at rf
            generalize hw : ((va_up uf.1 86 (upd (upd (upd (uf.1 86) (m + 1 + 3 * c + 1) (nI ds.length)) (m + 1 + 3 * c + 2) (nI d)) m (uf.1 86 m + nI 1)), uf.2) : zHM) = w
            have w0 : ∀ c, c ≠ 86 → w.1 c = uf.1 c := fun c q => by subst hw; simp (disch := omega) only [↓reduceIte, ↓qa_b, qa_b, qa_lit, qa_neg1, qa_qN, nI_add, pk_mul, qa_ix, qa_cl, qa_ltT, qa_ltF, qa_eqT, qa_eqF, qa_nN, qa_Nn, qa_ltN, qa_Nlt, qa_NN, qa_ltNN, qa_sub, qa_dec, qa_dec0, qa_sub0, qa_incN, qa_31, qa_shr, qa_shl, qa_and1, va_up_self, qa_une, pk_us, pk_un, qa_up2, qa_upd2, Option.bind_some, if_true, if_false, and_true, true_and, and_self, qa_f1, qa_f2]
            have w86 : w.1 86 = upd (upd (upd (uf.1 86) (m + 1 + 3 * c + 1) (nI ds.length)) (m + 1 + 3 * c + 2) (nI d)) m (uf.1 86 m + nI 1) := by subst hw; simp (disch := omega) only [↓reduceIte, ↓qa_b, qa_b, qa_lit, qa_neg1, qa_qN, nI_add, pk_mul, qa_ix, qa_cl, qa_ltT, qa_ltF, qa_eqT, qa_eqF, qa_nN, qa_Nn, qa_ltN, qa_Nlt, qa_NN, qa_ltNN, qa_sub, qa_dec, qa_dec0, qa_sub0, qa_incN, qa_31, qa_shr, qa_shl, qa_and1, va_up_self, qa_une, pk_us, pk_un, qa_up2, qa_upd2, Option.bind_some, if_true, if_false, and_true, true_and, and_self, qa_f1, qa_f2]
            refine ⟨1, p, hf, w, by omega, by omega, by rw [clsE, x1, Option.bind_some, rf], x2, x3, VHa hf x4, ?_, by rw [w0 83 (by omega)]; exact z2, ?_⟩
            · rw [rd, refE, eiE, z1]
              rw [← hw]
              simp (disch := omega) only [↓reduceIte, ↓qa_b, Option.bind_some, zM_clause_J117, zM_clause_J154, qa_lit, qa_ltT, nI_add, qa_ix, qa_cl, qa_f1, qa_une, z5, z6, va_up_self, qa_up2, pk_un, z3, qa_eqF]
            · obtain ⟨v1, v2, v3⟩ := VUa uf z4
              exact ⟨fun c c1 c2 c3 => by rw [w0 c c2, v1 c c1 c2 c3], fun j hj => by rw [w0 83 (by omega), v2 j hj], fun j hj => by rw [w86, pk_un (by omega), pk_un (by omega), pk_un (by omega), v3 j hj]⟩
          · right
            have k86 : ∀ j, j < m + 185 → uf.1 86 j = ua.1 86 j := fun j hj => z10.2.2 j (by omega)
            have km : uf.1 86 m = nI c := by rw [k86 m (by omega), u86 m (by omega)]; exact m0
            generalize hw : ((va_up uf.1 86 (upd (upd (upd (uf.1 86) (m + 1 + 3 * c + 1) (nI ds.length)) (m + 1 + 3 * c + 2) (nI (lw ++ ds).length)) m (nI (c + 1))), uf.2) : zHM) = w
            have w0 : ∀ c, c ≠ 86 → w.1 c = uf.1 c := fun c q => by subst hw; simp (disch := omega) only [↓reduceIte, ↓qa_b, qa_b, qa_lit, qa_neg1, qa_qN, nI_add, pk_mul, qa_ix, qa_cl, qa_ltT, qa_ltF, qa_eqT, qa_eqF, qa_nN, qa_Nn, qa_ltN, qa_Nlt, qa_NN, qa_ltNN, qa_sub, qa_dec, qa_dec0, qa_sub0, qa_incN, qa_31, qa_shr, qa_shl, qa_and1, va_up_self, qa_une, pk_us, pk_un, qa_up2, qa_upd2, Option.bind_some, if_true, if_false, and_true, true_and, and_self, qa_f1, qa_f2]
            have w86 : w.1 86 = upd (upd (upd (uf.1 86) (m + 1 + 3 * c + 1) (nI ds.length)) (m + 1 + 3 * c + 2) (nI (lw ++ ds).length)) m (nI (c + 1)) := by subst hw; simp (disch := omega) only [↓reduceIte, ↓qa_b, qa_b, qa_lit, qa_neg1, qa_qN, nI_add, pk_mul, qa_ix, qa_cl, qa_ltT, qa_ltF, qa_eqT, qa_eqF, qa_nN, qa_Nn, qa_ltN, qa_Nlt, qa_NN, qa_ltNN, qa_sub, qa_dec, qa_dec0, qa_sub0, qa_incN, qa_31, qa_shr, qa_shl, qa_and1, va_up_self, qa_une, pk_us, pk_un, qa_up2, qa_upd2, Option.bind_some, if_true, if_false, and_true, true_and, and_self, qa_f1, qa_f2]
            have w2 : w.2 = uf.2 := by subst hw; rfl
            have Sw : qt_S tl b hbb w sp2 nx2 34 := qt_S_f ⟨rfl, rfl⟩ (w0 87 (by omega)) (fun j hj => by rw [w0 83 (by omega)]) (by rw [w2]) z3
            have spnx2 := Sw.2.2.2.2.2.2.2.2 (by omega)
            have spl2 : nx2 ≤ tl := z3.2.2.2.2.2.2.2.1
            obtain ⟨h2, u2, sp3, nx3, T3, b1, b2, b3, b4, b5⟩ := qt_go Sw
            have hb0 : ∀ c, c ≠ 55 → c ≠ 56 → c ≠ 58 → c ≠ x → c ≠ x + 4 → h2 c = ha c := fun c c1 c2 c3 c4 c5 => by rw [b5.1 c c2, z9.1 c c1 c2 c3 c4 c5]
            have hbx : ∀ j, j ≠ 4 → h2 x j = ha x j := fun j hj => by rw [b5.1 x (by omega), z9.2.1 j hj]
            have h2x4 : h2 x 4 = nI (lw ++ ds).length := by rw [b5.1 x (by omega)]; exact z4.1
            generalize hh3 : va_up h2 (x + 6) (upd (h2 (x + 6)) sr (nI (lw ++ ds).length)) = h3
            have h30 : ∀ c, c ≠ x + 6 → h3 c = h2 c := fun c q => by subst hh3; exact qa_une _ _ q
            have h36 : h3 (x + 6) = upd (h2 (x + 6)) sr (nI (lw ++ ds).length) := by subst hh3; exact va_up_self _ _ _
            obtain ⟨h4, g1, g2, g3, g4, g5, g6, g7⟩ := qg_addCl hx (h := h3) c49 (by rw [h30 x (by omega), hbx 0 (by omega), ha0 x (by omega) (by omega), a5.1 x (by omega)]; exact c0) (nI (sr + 3)) (nI 0) (nI 0)
            have v86 : ∀ j, j ≠ m → j ≠ m + 1 + 3 * c → j ≠ m + 1 + 3 * c + 1 → j ≠ m + 1 + 3 * c + 2 → j < m + 185 → u2.1 86 j = u.1 86 j := fun j j1 j2 j3 j4 j5 => by rw [b5.2.1 86 (by omega), w86, pk_un j1, pk_un j4, pk_un j3, k86 j j5, u86 j j2]
            have vsr : u2.1 86 (m + 1 + 3 * c) = nI sr := by rw [b5.2.1 86 (by omega), w86, pk_un (by omega), pk_un (by omega), pk_un (by omega), k86 _ (by omega), ua86, pk_us]
            have absent : ∀ i, i < c → u.1 86 (m + 1 + 3 * i) ≠ nI sr := fun i hi z => by
              have := (l3 sr law).mpr ⟨i, hi, z⟩
              rw [hb] at this
              cases this
            have lwn : 0 < lw.length := by
              cases lw with
              | nil => exact absurd z6 (by decide)
              | cons q l => rw [List.length_cons]; omega
            refine ⟨h4, u2, sp3, nx3, T3, lw ++ ds, lb ||| 2 ^ sr, ?_, ?_, ⟨?_, ⟨g2, ?_, by omega⟩, ⟨?_, ?_⟩, ⟨?_, ?_, ?_⟩, by omega, fun q hq => ?_, ?_, ⟨?_, lb1, fun s hs => ?_⟩, ?_, ?_⟩, by omega, ?_, ?_, ?_⟩
            · have s1 : h2 55 1 = nI 0 := by rw [b5.1 55 (by omega)]; exact z11
              obtain ⟨n3, hn3⟩ : ∃ n3, n2 = n3 + 1 := ⟨n2 - 1, by omega⟩
              have j138 : zR_readLaw_L36 n2 x (nI (sr + 3)) (nI 1) (nI (v4' + 1)) h2 = some h4 := by
                rw [hn3]
                have jj : zR_readLaw_J138 x (nI (sr + 3)) h2 = some h4 := by
                  rw [← hh3] at g1
                  simp (disch := omega) only [↓reduceIte, ↓qa_b, zR_readLaw_J138, es, qa_lit, qa_ix, qa_cl, h2x4, g1, Option.bind_some]
                rw [← jj]
                simp (disch := omega) only [↓reduceIte, zR_readLaw_L36.eq_2, qa_lit, qa_ltF, s1, qa_eqF]
              rw [clsE, z1, b1, Option.bind_some, j138, Option.bind_some]
            · have k59 : w.1 83 10 = nI 59 := by rw [qt_is Sw.2.2.2.2.1 (j := 34) (by omega) (by omega) (k := 59) rfl]
              have z51 := z5.1
              have z52 := z5.2.1
              rw [rd, refE, eiE, z2]
              rw [← hw] at k59 b2
              have k59' : uf.1 83 10 = nI 59 := by rw [← w0 83 (by omega), ← hw]; exact k59
              simp (disch := omega) only [↓reduceIte, ↓qa_b, Option.bind_some, zM_clause_J117, zM_clause_J154, qa_lit, qa_ltT, nI_add, qa_ix, qa_cl, qa_f1, qa_une, z51, z52, va_up_self, qa_up2, pk_un, km, k59', b2]
            · exact qt_S_f ⟨by rw [g6 56 (by omega) (by omega) (by omega) (by omega), h30 56 (by omega)], by rw [g6 57 (by omega) (by omega) (by omega) (by omega), h30 57 (by omega)]⟩ rfl (fun _ _ => rfl) rfl b3
            · rw [b5.2.1 86 (by omega), w86, pk_us]
            · rw [g7 4 (by omega), h30 x (by omega)]; exact h2x4
            · rw [g6 (x + 4) (by omega) (by omega) (by omega) (by omega), h30 (x + 4) (by omega), b5.1 (x + 4) (by omega)]; exact z4.2
            · rw [b5.2.2 13 (by omega) (by omega) (by omega) (by omega), w0 83 (by omega)]; exact z5.1
            · rw [b5.2.2 15 (by omega) (by omega) (by omega) (by omega), w0 83 (by omega)]; exact z5.2.1
            · rw [b5.2.1 86 (by omega), w86]
              exact qg_dr_u _ (by omega) (qg_dr_u _ (by omega) (qg_dr_u _ (by omega) z5.2.2))
            · rcases List.mem_append.mp hq with z | z
              · exact (z7 q z).1
              · exact ok q z
            · rw [List.reverse_append]
              refine qg_tx_add (sr := sr) X (by omega) (fun i hi => ⟨?_, ?_, ?_⟩) (fun i hi => ⟨v86 _ (by omega) (by omega) (by omega) (by omega) (by omega), v86 _ (by omega) (by omega) (by omega) (by omega) (by omega), v86 _ (by omega) (by omega) (by omega) (by omega) (by omega)⟩) vsr (by rw [g3, pk_us]) (fun q => by omega) (fun q => by omega) (fun s hs ns => ⟨?_, ?_⟩) (fun _ => ⟨absent, ds.length, (lw ++ ds).length, ?_, ?_, ?_, ?_, ?_, ?_, ?_, ?_⟩)
              · rw [g3, pk_un (by omega), h30 (x + 1) (by omega), hb0 (x + 1) (by omega) (by omega) (by omega) (by omega) (by omega), ha0 (x + 1) (by omega) (by omega), a5.1 (x + 1) (by omega)]
              · rw [g4, pk_un (by omega), h30 (x + 2) (by omega), hb0 (x + 2) (by omega) (by omega) (by omega) (by omega) (by omega), ha0 (x + 2) (by omega) (by omega), a5.1 (x + 2) (by omega)]
              · rw [g5, pk_un (by omega), h30 (x + 3) (by omega), hb0 (x + 3) (by omega) (by omega) (by omega) (by omega) (by omega), ha0 (x + 3) (by omega) (by omega), a5.1 (x + 3) (by omega)]
              · rw [g6 (x + 5) (by omega) (by omega) (by omega) (by omega), h30 (x + 5) (by omega), hb0 (x + 5) (by omega) (by omega) (by omega) (by omega) (by omega), ha5, pk_un ns, a5.1 (x + 5) (by omega)]
              · rw [g6 (x + 6) (by omega) (by omega) (by omega) (by omega), h36, pk_un ns, hb0 (x + 6) (by omega) (by omega) (by omega) (by omega) (by omega), ha0 (x + 6) (by omega) (by omega), a5.1 (x + 6) (by omega)]
              · rw [List.length_append]; omega
              · rw [← List.reverse_append, List.length_reverse]; exact Nat.le_refl _
              · rw [b5.2.1 86 (by omega), w86, pk_un (by omega), pk_un (by omega), pk_us]
              · rw [b5.2.1 86 (by omega), w86, pk_un (by omega), pk_us]
              · rw [g6 (x + 5) (by omega) (by omega) (by omega) (by omega), h30 (x + 5) (by omega), hb0 (x + 5) (by omega) (by omega) (by omega) (by omega) (by omega), ha5, pk_us]
              · rw [g6 (x + 6) (by omega) (by omega) (by omega) (by omega), h36, pk_us]
              · rw [List.drop_append_of_le_length (by rw [List.length_reverse]; exact Nat.le_refl _), List.drop_of_length_le (by rw [List.length_reverse]; exact Nat.le_refl _), List.nil_append, List.take_of_length_le (by rw [List.length_reverse, List.length_append]; omega), qg_rn_run]
                exact z6
              · rw [List.drop_append_of_le_length (by rw [List.length_reverse]; exact Nat.le_refl _), List.drop_of_length_le (by rw [List.length_reverse]; exact Nat.le_refl _), List.nil_append, List.take_of_length_le (by rw [List.length_reverse, List.length_append]; omega)]
                intro q hq
                exact (z7 q (List.mem_reverse.mp hq)).2
            · rw [b5.2.2 22 (by omega) (by omega) (by omega) (by omega), w0 83 (by omega), z10.2.1 22 (by omega), u83 22 (by omega) (by omega) (by omega) (by omega), y83, pk_un (by omega), pk_us]
            · rw [lb2 s hs, Bool.or_eq_true, decide_eq_true_eq, l3 s hs]
              constructor
              · rintro (⟨i, i1, i2⟩ | z)
                · exact ⟨i, by omega, by rw [v86 _ (by omega) (by omega) (by omega) (by omega) (by omega)]; exact i2⟩
                · exact ⟨c, by omega, by rw [z]; exact vsr⟩
              · rintro ⟨i, i1, i2⟩
                by_cases z : i = c
                · right
                  rw [z, vsr] at i2
                  exact ((nI_eq (by omega) (by omega)).mp i2).symm
                · left
                  refine ⟨i, by omega, ?_⟩
                  rw [v86 _ (by omega) (by omega) (by omega) (by omega) (by omega)] at i2
                  exact i2
            · rw [b5.2.2 19 (by omega) (by omega) (by omega) (by omega), w0 83 (by omega)]; exact z15
            · rw [g6 55 (by omega) (by omega) (by omega) (by omega), h30 55 (by omega), b5.1 55 (by omega)]; exact z11
            · intro c' c1 c2 c3 c4
              rw [g6 c' (by omega) (by omega) (by omega) (by omega), h30 c' (by omega), hb0 c' c1 c2 c3 (by omega) (by omega), ha0 c' (by omega) c1, a5.1 c' c2]
            · obtain ⟨v1, v2, v3⟩ := VUa uf z10
              exact ⟨fun c c1 c2 c3 => by rw [b5.2.1 c c1, w0 c c2, v1 c c1 c2 c3], fun j hj => by rw [b5.2.2 j (by omega) (by omega) (by omega) (by omega), w0 83 (by omega), v2 j hj], fun j hj => by rw [b5.2.1 86 (by omega), w86, pk_un (by omega), pk_un (by omega), pk_un (by omega), v3 j hj]⟩
            · rw [g6 55 (by omega) (by omega) (by omega) (by omega), h30 55 (by omega), b5.1 55 (by omega), z9.2.2 2 (by omega), ha55, pk_un (by omega), pk_un (by omega), pk_un (by omega), pk_un (by omega), pk_un (by omega), pk_un (by omega), a5.1 55 (by omega)]
      · left
        rw [hb] at hl tb
        have tbT : (nI (lb / 2 ^ sr % 2) = nI 1) = True := by rw [tb]; exact eq_true rfl
        refine bad 4 (by omega) (by omega) ?_ ?_
        · simp (disch := omega) only [↓reduceIte, ↓qa_b, zR_faultOfVerb, isl, hl, Option.bind_some, qs_b0, Bool.true_eq_false, qa_lit, qa_ltF, qa_eqF]
        · simp (disch := omega) only [↓reduceIte, ↓qa_b, zM_clause, so, qa_lit, qa_ltF, qa_ltT, l1, qa_31, qa_shr, qa_and1, tbT]
    · -- a deed
      have isl : zR_isLaw (nI (sr + 3)) = nI 0 := by
        simp (disch := omega) only [↓reduceIte, zR_isLaw, qa_lit, qa_ltF, qa_ltT]
      have clE : zM_clause u = zM_clause_J30 (nI sr) u := by
        simp (disch := omega) only [↓reduceIte, ↓qa_b, zM_clause, so, qa_lit, qa_ltF]
      by_cases c5 : c = 50
      · left
        refine bad 6 (by omega) (by omega) ?_ ?_
        · rw [c5] at c0
          simp (disch := omega) only [↓reduceIte, ↓qa_b, zR_faultOfVerb, zR_faultOfVerb_J30, isl, qa_lit, qa_ltF, c0]
        · rw [clE]
          rw [c5] at m0
          have k13 := K.1
          simp (disch := omega) only [↓reduceIte, ↓qa_b, zM_clause_J30, k13, qa_ix, qa_cl, m0, qa_lit]
      · have c49 : c < 50 := by omega
        generalize hy : ((va_up u.1 83 (upd (u.1 83) 21 (nI sr)), u.2) : zHM) = y
        have y0 : ∀ c, c ≠ 83 → y.1 c = u.1 c := fun c q => by subst hy; simp (disch := omega) only [↓reduceIte, ↓qa_b, qa_b, qa_lit, qa_neg1, qa_qN, nI_add, pk_mul, qa_ix, qa_cl, qa_ltT, qa_ltF, qa_eqT, qa_eqF, qa_nN, qa_Nn, qa_ltN, qa_Nlt, qa_NN, qa_ltNN, qa_sub, qa_dec, qa_dec0, qa_sub0, qa_incN, qa_31, qa_shr, qa_shl, qa_and1, va_up_self, qa_une, pk_us, pk_un, qa_up2, qa_upd2, Option.bind_some, if_true, if_false, and_true, true_and, and_self, qa_f1, qa_f2]
        have y83 : y.1 83 = upd (u.1 83) 21 (nI sr) := by subst hy; simp (disch := omega) only [↓reduceIte, ↓qa_b, qa_b, qa_lit, qa_neg1, qa_qN, nI_add, pk_mul, qa_ix, qa_cl, qa_ltT, qa_ltF, qa_eqT, qa_eqF, qa_nN, qa_Nn, qa_ltN, qa_Nlt, qa_NN, qa_ltNN, qa_sub, qa_dec, qa_dec0, qa_sub0, qa_incN, qa_31, qa_shr, qa_shl, qa_and1, va_up_self, qa_une, pk_us, pk_un, qa_up2, qa_upd2, Option.bind_some, if_true, if_false, and_true, true_and, and_self, qa_f1, qa_f2]
        have y2 : y.2 = u.2 := by subst hy; rfl
        have Sy : qt_S tl b h y sp nx (sr + 3) := qt_S_f ⟨rfl, rfl⟩ (y0 87 (by omega)) (fun j hj => by rw [y83, pk_un (by omega)]) (by rw [y2]) S
        obtain ⟨h1, u1, sp1, nx1, T1, a1, a2, a3, a4, a5⟩ := qt_go Sy
        generalize hua : ((va_up u1.1 86 (upd (u1.1 86) (m + 1 + 3 * c) (nI sr)), u1.2) : zHM) = ua
        have ua0 : ∀ c, c ≠ 86 → ua.1 c = u1.1 c := fun c q => by subst hua; simp (disch := omega) only [↓reduceIte, ↓qa_b, qa_b, qa_lit, qa_neg1, qa_qN, nI_add, pk_mul, qa_ix, qa_cl, qa_ltT, qa_ltF, qa_eqT, qa_eqF, qa_nN, qa_Nn, qa_ltN, qa_Nlt, qa_NN, qa_ltNN, qa_sub, qa_dec, qa_dec0, qa_sub0, qa_incN, qa_31, qa_shr, qa_shl, qa_and1, va_up_self, qa_une, pk_us, pk_un, qa_up2, qa_upd2, Option.bind_some, if_true, if_false, and_true, true_and, and_self, qa_f1, qa_f2]
        have ua86 : ua.1 86 = upd (u1.1 86) (m + 1 + 3 * c) (nI sr) := by subst hua; simp (disch := omega) only [↓reduceIte, ↓qa_b, qa_b, qa_lit, qa_neg1, qa_qN, nI_add, pk_mul, qa_ix, qa_cl, qa_ltT, qa_ltF, qa_eqT, qa_eqF, qa_nN, qa_Nn, qa_ltN, qa_Nlt, qa_NN, qa_ltNN, qa_sub, qa_dec, qa_dec0, qa_sub0, qa_incN, qa_31, qa_shr, qa_shl, qa_and1, va_up_self, qa_une, pk_us, pk_un, qa_up2, qa_upd2, Option.bind_some, if_true, if_false, and_true, true_and, and_self, qa_f1, qa_f2]
        have ua2 : ua.2 = u1.2 := by subst hua; rfl
        have Sa : qt_S tl b h1 ua sp1 nx1 T1 := qt_S_f ⟨rfl, rfl⟩ (ua0 87 (by omega)) (fun j hj => by rw [ua0 83 (by omega)]) (by rw [ua2]) a3
        have u86 : ∀ j, j ≠ m + 1 + 3 * c → ua.1 86 j = u.1 86 j := fun j hj => by rw [ua86, pk_un hj, a5.2.1 86 (by omega), y0 86 (by omega)]
        have u83 : ∀ j, j ≠ 8 → j ≠ 9 → j ≠ 10 → j ≠ 11 → j ≠ 21 → ua.1 83 j = u.1 83 j := fun j j1 j2 j3 j4 j5 => by rw [ua0 83 (by omega), a5.2.2 j j1 j2 j3 j4, y83, pk_un j5]
        have fv : zR_faultOfVerb x (nI (sr + 3)) h = some (nI 0) := by
          simp (disch := omega) only [↓reduceIte, ↓qa_b, zR_faultOfVerb, zR_faultOfVerb_J30, isl, qa_lit, qa_ltF, qa_ltT, c0]
        have clsE : zR_read_L23 (n + 1) x (nI c) h = ((zR_readDeed x (nI (sr + 3)) h1).bind fun r14 => zR_read_L23 n x (nI (c + 1)) r14) := by
          simp (disch := omega) only [↓reduceIte, ↓qa_b, zR_read_L23.eq_2, qa_lit, qa_ltF, e1, e3, qa_eqF, fv, isl, a1, Option.bind_some, nI_add]
        have refE : zM_clause u = ((zM_playedBy (nI (m + 1 + 3 * c)) (nI sr) ua).bind fun r30 => zM_clause_J117 (nI sr) (nI (m + 1 + 3 * c)) (nI ds.length) r30.1 r30.2) := by
          have k13 := K.1
          have k13' : u1.1 83 13 = nI m := by rw [a5.2.2 13 (by omega) (by omega) (by omega) (by omega), y83, pk_un (by omega)]; exact K.1
          have k15' : ua.1 83 15 = nI ds.length := by rw [u83 15 (by omega) (by omega) (by omega) (by omega) (by omega)]; exact K.2.1
          rw [clE]
          rw [← hy] at a2
          rw [← hua] at k15' ⊢
          have k15'' : va_up u1.1 86 (upd (u1.1 86) (m + 1 + 3 * c) (nI sr)) 83 15 = nI ds.length := k15'
          simp (disch := omega) only [↓reduceIte, ↓qa_b, zM_clause_J30, zM_clause_J66, k13, qa_ix, qa_cl, m0, qa_lit, qa_eqF, qa_ltF, a2, Option.bind_some, k13', nI_add, pk_mul, k15'']
        have VU2 : ∀ w : zHM, (∀ c, c ≠ 83 → c ≠ 86 → c ≠ 88 → w.1 c = ua.1 c) → (∀ j, j < 8 → w.1 83 j = ua.1 83 j) → (∀ j, j < m ∨ m + 185 ≤ j → w.1 86 j = ua.1 86 j) → qg_VU m u w := fun w q1 q2 q3 => ⟨fun c c1 c2 c3 => by rw [q1 c c1 c2 c3, ua0 c c2, a5.2.1 c c1, y0 c c1], fun j hj => by rw [q2 j hj, u83 j (by omega) (by omega) (by omega) (by omega) (by omega)], fun j hj => by rw [q3 j (by omega), u86 j (by omega)]⟩
        rcases qg_deed hx hm c49 (show 3 ≤ sr by omega) (by omega) Sa (by rw [a5.1 55 (by omega)]; exact e1) (by rw [a5.1 x (by omega)]; exact c0) (by rw [u83 13 (by omega) (by omega) (by omega) (by omega) (by omega)]; exact K.1) (by rw [u86 m (by omega)]; exact m0) (nI ds.length) with ⟨f, p, hf, uf, f1, f6, x1, x2, x3, x4, z1, z2, z3, z4, z5⟩ | ⟨y1, y2', h4, u2, sp3, nx3, T3, x1, x2, x3, x4, x5, x6, x7, x8, ⟨D1, D2, D3, D4, D5, D6⟩, x10, x11, x12, x13, x14, x15, x16⟩
        · left
          have rf := qg_rdF (x := x) (h := hf) f1 f6 x2 n1 (c + 1) (by omega)
          rw [← hn1] at rf
          refine ⟨f, p, hf, uf, f1, f6, by rw [clsE, x1, Option.bind_some, rf], x2, x3, fun c c1 c2 c3 c4 => by rw [x4 c c1 c2 c3 c4, a5.1 c c2], ?_, z2, VU2 uf z3 z4 z5⟩
          rw [rd, refE, z1]
          simp (disch := omega) only [↓reduceIte, Option.bind_some, qa_eqF]
        · right
          have v86 : ∀ j, j ≠ m → j ≠ m + 1 + 3 * c → j ≠ m + 1 + 3 * c + 1 → j ≠ m + 1 + 3 * c + 2 → u2.1 86 j = u.1 86 j := fun j j1 j2 j3 j4 => by rw [x14 j j1 j3 j4, u86 j j2]
          have vsr : u2.1 86 (m + 1 + 3 * c) = nI sr := by rw [x14 _ (by omega) (by omega) (by omega), ua86, pk_us]
          refine ⟨h4, u2, sp3, nx3, T3, ds, lb, by rw [clsE, x1, Option.bind_some], ?_, ⟨x3, ⟨x5, x11, by omega⟩, ⟨?_, ?_⟩, ⟨?_, ?_, ?_⟩, by omega, ok, ?_, ⟨?_, l2, fun s hs => ?_⟩, ?_, x10⟩, by omega, fun c' c1 c2 c3 c4 => by rw [D1 c' c1 c2 c4, a5.1 c' c2], VU2 u2 (fun c c1 c2 _ => x15 c c1 c2) (fun j hj => x16 j (by omega) (by omega) (by omega) (by omega)) (fun j hj => x14 j (by omega) (by omega) (by omega)), by rw [D6 2, a5.1 55 (by omega)]⟩
          · rw [rd, refE, x2]
            simp (disch := omega) only [↓reduceIte, Option.bind_some]
          · rw [D5 4 (by omega), a5.1 x (by omega)]; exact d0
          · rw [D2, a5.1 (x + 4) (by omega)]; exact dc
          · rw [x16 13 (by omega) (by omega) (by omega) (by omega), u83 13 (by omega) (by omega) (by omega) (by omega) (by omega)]; exact K.1
          · rw [x16 15 (by omega) (by omega) (by omega) (by omega), u83 15 (by omega) (by omega) (by omega) (by omega) (by omega)]; exact K.2.1
          · exact qg_dr_c (fun j hj => v86 j (by omega) (by omega) (by omega) (by omega)) ds K.2.2
          · have add := qg_tx_add (cx := []) (sr := sr) (h' := h4) (tx' := u2.1 86) X (by omega) (fun i hi => ⟨by rw [x6, pk_un (by omega), a5.1 (x + 1) (by omega)], by rw [x7, pk_un (by omega), a5.1 (x + 2) (by omega)], by rw [x8, pk_un (by omega), a5.1 (x + 3) (by omega)]⟩) (fun i hi => ⟨v86 _ (by omega) (by omega) (by omega) (by omega), v86 _ (by omega) (by omega) (by omega) (by omega), v86 _ (by omega) (by omega) (by omega) (by omega)⟩) vsr (by rw [x6, pk_us]) (fun q1 q2 => ⟨y1, (x12 q1 q2).1, (x12 q1 q2).2, by rw [x7, pk_us]⟩) (fun q => ⟨y2', (x13 q).1, (x13 q).2, by rw [x8, pk_us]⟩) (fun s hs ns => ⟨by rw [D3, a5.1 (x + 5) (by omega)], by rw [D4, a5.1 (x + 6) (by omega)]⟩) (fun q => by omega)
            rw [List.append_nil] at add
            exact add
          · rw [x16 22 (by omega) (by omega) (by omega) (by omega), u83 22 (by omega) (by omega) (by omega) (by omega) (by omega)]; exact l1
          · rw [l3 s hs]
            constructor
            · rintro ⟨i, i1, i2⟩
              exact ⟨i, by omega, by rw [v86 _ (by omega) (by omega) (by omega) (by omega)]; exact i2⟩
            · rintro ⟨i, i1, i2⟩
              by_cases z : i = c
              · rw [z, vsr] at i2
                have := (nI_eq (by omega) (by omega)).mp i2
                omega
              · refine ⟨i, by omega, ?_⟩
                rw [v86 _ (by omega) (by omega) (by omega) (by omega)] at i2
                exact i2
          · rw [x16 19 (by omega) (by omega) (by omega) (by omega), u83 19 (by omega) (by omega) (by omega) (by omega) (by omega)]; exact m19
  · left
    rw [if_neg t1] at so
    refine bad 1 (by omega) (by omega) ?_ ?_
    · by_cases q : T < 3
      · simp (disch := omega) only [↓reduceIte, zR_faultOfVerb, qa_lit, qa_ltT]
      · simp (disch := omega) only [↓reduceIte, zR_faultOfVerb, qa_lit, qa_ltF, qa_ltT]
    · simp (disch := omega) only [↓reduceIte, ↓qa_b, zM_clause, so, qa_lit, qa_Nlt0]
end
