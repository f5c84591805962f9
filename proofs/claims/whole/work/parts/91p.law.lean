/-! THE HEART: the reader: a law, both -/
theorem qg_rn_not {t : Nat} (ht : 1 ≤ t) : ∀ (k : Nat) (l : List (Nat × Nat)), qg_rn l = some (0, t) → qg_rn (qg_em (List.replicate k 20) l) = some (0, t)
  | 0, _, h => h
  | k + 1, l, h => by
    rw [List.replicate_succ]
    unfold qg_em
    refine qg_rn_not ht k _ ?_
    rw [show qg_rn ((20, 0) :: l) = (qg_rn l).bind (qi_sh 20) from rfl, h]
    show qi_sh 20 (0, t) = _
    unfold qi_sh
    rw [if_neg (by decide), if_neg (by decide), if_neg (by decide), if_neg (by decide), if_pos rfl, if_pos ⟨rfl, ht⟩]
theorem qg_rn_con {t e : Nat} (he : e = 21 ∨ e = 22) (ht : 2 ≤ t) (l : List (Nat × Nat)) (h : qg_rn l = some (0, t)) : qg_rn ((e, 0) :: l) = some (0, t - 1) := by
  rw [show qg_rn ((e, 0) :: l) = (qg_rn l).bind (qi_sh e) from rfl, h]
  show qi_sh e (0, t) = _
  unfold qi_sh
  rw [if_neg (by omega), if_neg (by omega), if_neg (by omega), if_neg (by omega), if_neg (by omega), if_pos ⟨rfl, ht⟩]
theorem qg_rn_ask {seg : List Nat} {T1 k : Nat} {a o d : Bool} {lw : List (Nat × Nat)} (hseg : ∀ e ∈ seg, 3 ≤ e ∧ e ≤ 6) (hT : 21 ≤ T1 ∧ T1 ≤ 26) (h : qg_rn lw = some (1 + seg.length + 1, (qg_b0 a o).length)) : qg_rn (qg_em (seg ++ ([T1 - 11] ++ (List.replicate k 20 ++ ((if a then [21] else []) ++ (if d = true ∧ o = true then [22] else []))))) lw) = some (0, if o = true ∧ d = false then 2 else 1) := by
  rw [qg_em_em, qg_em_em, qg_em_em, qg_em_em]
  have s1 := qg_rn_bin seg lw _ hseg (by omega) h
  rw [show 1 + seg.length + 1 - seg.length = 2 by omega] at s1
  have s2 : qg_rn (qg_em [T1 - 11] (qg_em seg lw)) = some (0, (qg_b0 a o).length + 1) := by
    show qg_rn ((T1 - 11, 0) :: qg_em seg lw) = _
    rw [show qg_rn ((T1 - 11, 0) :: qg_em seg lw) = (qg_rn (qg_em seg lw)).bind (qi_sh (T1 - 11)) from rfl, s1]
    show qi_sh (T1 - 11) (2, _) = _
    unfold qi_sh
    rw [if_neg (by omega), if_neg (by omega), if_neg (by omega), if_pos (by omega), if_pos rfl]
  have s3 := qg_rn_not (by omega) k _ s2
  generalize qg_em (List.replicate k 20) (qg_em [T1 - 11] (qg_em seg lw)) = l at *
  cases a
  · cases o
    · cases d <;> exact s3
    · cases d
      · exact s3
      · exact qg_rn_con (Or.inr rfl) (by decide) _ s3
  · cases o
    · cases d <;> exact qg_rn_con (Or.inl rfl) (by decide) _ s3
    · cases d
      · exact qg_rn_con (Or.inl rfl) (by decide) _ s3
      · exact qg_rn_con (Or.inr rfl) (by decide) _ (qg_rn_con (Or.inl rfl) (by decide) _ s3)
theorem qg_b0_len (a o : Bool) : (qg_b0 a o).length = (if a then 1 else 0) + (if o then 1 else 0) := by cases a <;> cases o <;> rfl
section
variable {tl : Nat} {b : Nat → Nat} {x m s : Nat} {ds0 : List (Nat × Nat)}
theorem qg_law (hx : x ≤ 41) (hm : m ≤ 2370) (hs : s < 3) {h0 : Nat → Nat → Int32} {u0 : zHM} {c : Nat} (hc : c < 50) (e0 : h0 x 0 = nI c) : ∀ (N n n' v4 : Nat) (a o : Bool) (h : Nat → Nat → Int32) (u : zHM) (sp nx T : Nat) (lw : List (Nat × Nat)), tl - sp ≤ N → N ≤ 300 → N + 1 < n → N + 1 < n' → v4 ≤ sp → qg_A tl b x m s ds0 a o 0 h u sp nx T lw → qg_FH x h0 h → qg_FU m u0 u →
    (∃ f p, 1 ≤ f ∧ f ≤ 6 ∧ qg_XC x h0 (zR_readLaw_L36 n x (nI (s + 3)) (nI 0) (nI v4) h) f p ∧ qg_XM m u0 (zM_either_L6 n' (qs_b a) (qs_b o) (nI 1) u) f p) ∨
    (∃ u' p d, qg_XC x h0 (zR_readLaw_L36 n x (nI (s + 3)) (nI 0) (nI v4) h) 1 p ∧ zM_either_L6 n' (qs_b a) (qs_b o) (nI 1) u = some (nI 0, u') ∧ u'.1 83 9 = nI p ∧ ¬ u'.1 83 10 = nI 59 ∧ qg_FU m u0 u' ∧ u'.1 83 13 = nI m ∧ u'.1 83 15 = nI d) ∨
    (∃ n2 v4' hb u' sp' nx' lw', zR_readLaw_L36 n x (nI (s + 3)) (nI 0) (nI v4) h = ((zT_advance hb).bind fun r => zR_readLaw_L36 n2 x (nI (s + 3)) (nI 1) (nI (v4' + 1)) r) ∧ zM_either_L6 n' (qs_b a) (qs_b o) (nI 1) u = some (nI 0, u') ∧ qt_S tl b hb u' sp' nx' 34 ∧ (hb x 4 = nI (lw' ++ ds0).length ∧ qg_dc (hb (x + 4)) (lw' ++ ds0)) ∧ qg_K m u' (lw' ++ ds0) ∧ qg_rn lw' = some (0, 1) ∧ (∀ q ∈ lw', qg_nm s q) ∧ (lw' ++ ds0).length ≤ sp' ∧ qg_FH x h0 hb ∧ qg_FU m u0 u' ∧ hb 55 1 = nI 0 ∧ 1 ≤ n2 ∧ v4' ≤ sp' ∧ sp < sp' ∧ u'.1 83 19 = nI 0) := by
  intro N
  induction N using Nat.strongRecOn with
  | _ N IH =>
    intro n n' v4 a o h u sp nx T lw hN hN3 hn hn' hv A FH FU
    obtain ⟨n1', hn1'⟩ : ∃ n1, n' = n1 + 1 := ⟨n' - 1, by omega⟩
    subst hn1'
    have eiE : zM_either_L6 (n1' + 1) (qs_b a) (qs_b o) (nI 1) u = ((zM_asks u).bind fun r2 => if r2.1 = 0 then (if qs_b a = 0 then (zM_either_J35 (fun v1 v2 v3 w => zM_either_L6 n1' v1 v2 v3 w) (qs_b o) r2.2) else ((zM_emit 21 0 r2.2).bind fun r16 => zM_either_J35 (fun v1 v2 v3 w => zM_either_L6 n1' v1 v2 v3 w) (qs_b o) r16)) else (some ((r2.1, r2.2)))) := by
      rw [zM_either_L6.eq_2, if_neg (by decide)]
    rcases qg_asks hx hm hs hc e0 N n am_N v4 0 h u sp nx T lw hN hN3 hn (Nat.lt_of_le_of_lt hN3 (by decide)) hv A FH FU with ⟨f, p, f1, f6, x1, u1, x2, x3, x4⟩ | ⟨n2, v4', h', u', sp', nx', T', lw', seg, T1, k, r1, r2, r3, r4, r5, r6, r7, r8⟩
    · left
      refine ⟨f, p, f1, f6, x1, u1, ?_, x3, x4⟩
      have x2' : zM_asks u = some (nI f, u1) := x2
      rw [eiE, x2']
      simp (disch := omega) only [↓reduceIte, Option.bind_some, qa_lit, qa_eqF]
    · have r2' : zM_asks u = some (nI 0, u') := r2
      obtain ⟨S, C, K, ⟨m19, k8⟩, gr, gn, gl, g21, hT1, hseg, sgl, nT⟩ := id r3
      have R := S.2.2.2.2.1
      have e3 := S.2.2.2.1.1
      have t37 := S.2.2.2.1.2
      have spl : sp' ≤ nx' ∧ nx' ≤ tl ∧ tl ≤ 300 := ⟨S.2.2.2.2.2.2.1, S.2.2.2.2.2.2.2.1, S.1.2.2.1⟩
      have c10 : h' 55 1 = nI 0 := C.2.2.2.2.2.2.2
      have c7 : h' 55 7 = nI 1 := C.2.2.2.2.1
      obtain ⟨bl, -, -⟩ := qg_b0l a o
      have b0 := qg_b0_len a o
      have hBc := qg_Bc (k := k) hT1 a o
      have wsl : (seg.map qg_t ++ (T1 :: (List.replicate k 2 ++ qg_b0 a o))).length = seg.length + (1 + (k + (qg_b0 a o).length)) := by
        rw [List.length_append, List.length_map, List.length_cons, List.length_append, List.length_replicate]
        omega
      have wsw : ∀ t ∈ seg.map qg_t ++ (T1 :: (List.replicate k 2 ++ qg_b0 a o)), qg_w t = true := fun t ht => by
        rcases List.mem_append.mp ht with q | q
        · obtain ⟨e', y1, y2⟩ := List.mem_map.mp q
          rw [← y2]
          exact (qg_tu e' (by have := hseg e' y1; omega) (hseg e' y1).1).2.2.2.1
        · exact (hBc.1 t q).1
      have wsc : (seg.map qg_t ++ (T1 :: (List.replicate k 2 ++ qg_b0 a o))).countP qg_on ≤ k := by
        rw [List.countP_append, hBc.2.1, List.countP_map]
        have : seg.countP (qg_on ∘ qg_t) = 0 := List.countP_eq_zero.mpr (fun e he => by
          have := (qg_tu e (by have := hseg e he; omega) (hseg e he).1).2.2.1
          simp [Function.comp, this])
        omega
      have elw : (qg_em (seg ++ ([T1 - 11] ++ List.replicate k 20)) lw' ++ ds0).length = (lw' ++ ds0).length + (seg.length + (1 + k)) := by
        rw [List.length_append, qg_em_len, List.length_append, List.length_append, List.length_replicate, List.length_append]
        simp
        omega
      -- a pending and is said
      have anE : ∃ u1, (if qs_b a = 0 then (zM_either_J35 (fun v1 v2 v3 w => zM_either_L6 n1' v1 v2 v3 w) (qs_b o) u') else ((zM_emit 21 0 u').bind fun r16 => zM_either_J35 (fun v1 v2 v3 w => zM_either_L6 n1' v1 v2 v3 w) (qs_b o) r16)) = zM_either_J35 (fun v1 v2 v3 w => zM_either_L6 n1' v1 v2 v3 w) (qs_b o) u1 ∧ qg_K m u1 (qg_em (seg ++ ([T1 - 11] ++ (List.replicate k 20 ++ (if a then [21] else [])))) lw' ++ ds0) ∧ qg_fu m u' u1 ∧ (∀ j, j ≠ 15 → u1.1 83 j = u'.1 83 j) := by
        cases a
        · refine ⟨u', rfl, ?_, qg_fu.rf m u', fun _ _ => rfl⟩
          rw [if_neg (by decide), List.append_nil]
          exact K
        · have l1 : 1 ≤ (qg_b0 true o).length := by cases o <;> decide
          obtain ⟨u1, y1, y2, y3, y4⟩ := qg_emK hm K (by omega) 21
          refine ⟨u1, ?_, ?_, y3, y4⟩
          · rw [if_neg (by decide)]
            have y1' : zM_emit 21 0 u' = some u1 := y1
            rw [y1']
            rfl
          · rw [if_pos rfl, show seg ++ ([T1 - 11] ++ (List.replicate k 20 ++ [21])) = (seg ++ ([T1 - 11] ++ List.replicate k 20)) ++ [21] by simp, qg_em_em]
            exact y2
      obtain ⟨u1, an1, an2, an3, an4⟩ := anE
      have S1 : qt_S tl b h' u1 sp' nx' T' := qg_S_t hx (qg_fh.rf x h') an3 S
      have R1 := S1.2.2.2.2.1
      -- which word
      have j35 : zM_either_J35 (fun v1 v2 v3 w => zM_either_L6 n1' v1 v2 v3 w) (qs_b o) u1 = zM_either_J73 (fun v1 v2 v3 w => zM_either_L6 n1' v1 v2 v3 w) (qs_b (decide (T' = 1))) (qs_b o) (qs_b (decide (T' = 0))) u1 := by
        have w1 := qt_isWordM R1 (j := 1) (by omega)
        have q1 := qt_W.2.1
        have q0 := qt_W.2.2.1
        have g := qt_wd R1 (j := 0) (by omega)
        unfold zM_either_J35
        simp only [qa_b, qa_lit, q1, w1, q0]
        by_cases t0 : T' = 0
        · rw [decide_eq_true t0] at g ⊢
          split at g
          · next y1 =>
            split at g
            · next y2 => rw [if_pos y1, if_pos y2]; rfl
            · exact absurd g (by decide)
          · exact absurd g (by decide)
        · rw [decide_eq_false t0] at g ⊢
          split at g
          · next y1 =>
            split at g
            · exact absurd g (by decide)
            · next y2 => rw [if_pos y1, if_neg y2]; rfl
          · next y1 => rw [if_neg y1]; rfl
      have eiF : zM_either_L6 (n1' + 1) (qs_b a) (qs_b o) (nI 1) u = zM_either_J73 (fun v1 v2 v3 w => zM_either_L6 n1' v1 v2 v3 w) (qs_b (decide (T' = 1))) (qs_b o) (qs_b (decide (T' = 0))) u1 := by
        rw [eiE, r2', Option.bind_some, if_pos (show (nI 0, u').1 = 0 from rfl), an1, j35]
      have elw1 : (qg_em (seg ++ ([T1 - 11] ++ (List.replicate k 20 ++ (if a then [21] else [])))) lw' ++ ds0).length = (lw' ++ ds0).length + (seg.length + (1 + (k + (if a then 1 else 0)))) := by
        rw [List.length_append, qg_em_len, List.length_append, List.length_append, List.length_append, List.length_replicate, List.length_append]
        cases a <;> simp <;> omega
      by_cases t1 : T' = 1
      · -- and
        have spnx := S.2.2.2.2.2.2.2.2 (by omega)
        obtain ⟨h1, a1, a2, a3⟩ := qg_cE hx S hT1 hseg C (Or.inr (Or.inl t1)) (by rw [wsl]; omega) (by rw [wsl]; omega) wsw wsc k8
        rw [if_neg (show ¬ (T' ≠ 1 ∧ o = true) from fun q => q.1 t1), if_neg (show ¬ T' ≠ 1 from fun q => q t1), List.append_nil, qg_em_app, t1, show (1 :: qg_b0 false o) = qg_b0 true o by cases o <;> rfl] at a2
        have S2 := qg_S_t hx a3 (qg_fu.rf m u1) S1
        obtain ⟨h2, u2, sp2, nx2, T2, d1, d2, d3, d4, d5⟩ := qt_go S2
        have spl2 : sp2 ≤ nx2 ∧ nx2 ≤ tl := ⟨d3.2.2.2.2.2.2.1, d3.2.2.2.2.2.2.2.1⟩
        obtain ⟨n3, hn3⟩ : ∃ n3, n2 = n3 + 1 := ⟨n2 - 1, by omega⟩
        subst hn3
        have rn := qg_rn_ask (k := k) (a := a) (o := o) (d := false) hseg hT1 gr
        rw [if_neg (show ¬ (false = true ∧ o = true) from fun q => by cases q.1), List.append_nil] at rn
        have A2 : qg_A tl b x m s ds0 true o 0 h2 u2 sp2 nx2 T2 (qg_em (seg ++ ([T1 - 11] ++ (List.replicate k 20 ++ (if a then [21] else [])))) lw') := ⟨d3, qg_C_t hx d5.1 a2, ⟨by rw [d5.2.2 13 (by omega) (by omega) (by omega) (by omega)]; exact an2.1, by rw [d5.2.2 15 (by omega) (by omega) (by omega) (by omega)]; exact an2.2.1, by rw [d5.2.1 86 (by omega)]; exact an2.2.2⟩, ⟨by rw [d5.2.2 19 (by omega) (by omega) (by omega) (by omega), an4 19 (by omega)]; exact m19, by omega⟩, by rw [rn]; cases o <;> rfl, fun q hq => by
            rcases qg_em_mem _ _ hq with w | ⟨e', w1, w2⟩
            · exact gn q w
            · rw [w2]
              refine qg_nm_e ?_
              rcases List.mem_append.mp w1 with z | z
              · have := hseg e' z; omega
              · rcases List.mem_append.mp z with z | z
                · rw [List.mem_singleton] at z; omega
                · rcases List.mem_append.mp z with z | z
                  · have := List.eq_of_mem_replicate z; omega
                  · cases a
                    · cases z
                    · rw [if_pos rfl, List.mem_singleton] at z; omega, by
            rw [elw1]
            have : (qg_b0 true o).length = 1 + (if o then 1 else 0) := qg_b0_len true o
            omega, by rw [d5.2.2 21 (by omega) (by omega) (by omega) (by omega), an4 21 (by omega)]; exact g21⟩
        have l36 : zR_readLaw_L36 (n3 + 1) x (nI (s + 3)) (nI 0) (nI v4') h' = zR_readLaw_L36 n3 x (nI (s + 3)) (nI 0) (nI (v4' + 1)) h2 := by
          have z7 : h1 55 7 = nI 0 := a2.2.2.2.2.1
          have z1 : h1 55 1 = nI 0 := a2.2.2.2.2.2.2.2
          simp (disch := omega) only [↓reduceIte, zR_readLaw_L36.eq_2, zR_readLaw_J78, zR_readLaw_J79, qa_lit, qa_ltF, c10, c7, qa_eqF, e3, a1, Option.bind_some]
          simp (disch := omega) only [↓reduceIte, zR_readLaw_J101, zR_readLaw_J118, z7, z1, qa_lit, d1, Option.bind_some, nI_add]
        have eiG : zM_either_L6 (n1' + 1) (qs_b a) (qs_b o) (nI 1) u = zM_either_L6 n1' (qs_b true) (qs_b o) (nI 1) u2 := by
          rw [eiF, decide_eq_true t1]
          have e1 : qs_b true = nI 1 := rfl
          rw [e1]
          simp (disch := omega) only [↓reduceIte, zM_either_J73, zM_either_J93, zM_either_J102, zM_either_J107, qa_lit, qa_eqF, d2, Option.bind_some]
        have ih := IH (tl - sp2) (by omega) n3 n1' (v4' + 1) true o h2 u2 sp2 nx2 T2 _ (by omega) (by omega) (by omega) (by omega) (by omega) A2 ((r4.tr a3.F).tr (qt_fr.H hx d5)) ((r5.tr an3.F).tr (qt_fr.U d5))
        rw [r1, l36, eiG]
        rcases ih with ⟨f, p, f1, f6, x1, x2⟩ | ih | ⟨m2, v5, hb, u5, sp5, nx5, lw5, z1, z2, z3, z4, z5, z6, z7, z8, z9, z10, z11, z12, z13, z14, z15⟩
        · exact Or.inl ⟨f, p, f1, f6, x1, x2⟩
        · exact Or.inr (Or.inl ih)
        · exact Or.inr (Or.inr ⟨m2, v5, hb, u5, sp5, nx5, lw5, z1, z2, z3, z4, z5, z6, z7, z8, z9, z10, z11, z12, z13, by omega, z15⟩)
      · -- a pending or is said
        rw [decide_eq_false t1] at eiF
        have e34 : seg ++ ([T1 - 11] ++ (List.replicate k 20 ++ ((if a then [21] else []) ++ (if true = true ∧ o = true then [22] else [])))) = (seg ++ ([T1 - 11] ++ (List.replicate k 20 ++ (if a then [21] else [])))) ++ (if o then [22] else []) := by
          cases o <;> simp
        have orE : ∃ u2, zM_either_J73 (fun v1 v2 v3 w => zM_either_L6 n1' v1 v2 v3 w) (qs_b false) (qs_b o) (qs_b (decide (T' = 0))) u1 = zM_either_J93 (fun v1 v2 v3 w => zM_either_L6 n1' v1 v2 v3 w) (nI 0) (qs_b (decide (T' = 0))) (qs_b (decide (T' = 0))) u2 ∧ qg_K m u2 (qg_em (seg ++ ([T1 - 11] ++ (List.replicate k 20 ++ ((if a then [21] else []) ++ (if true = true ∧ o = true then [22] else []))))) lw' ++ ds0) ∧ qg_fu m u1 u2 ∧ (∀ j, j ≠ 15 → u2.1 83 j = u1.1 83 j) := by
          rw [e34, qg_em_em]
          cases o
          · exact ⟨u1, rfl, an2, qg_fu.rf m u1, fun _ _ => rfl⟩
          · have l1 : (qg_b0 a true).length = (if a then 1 else 0) + 1 := qg_b0_len a true
            obtain ⟨u2, y1, y2, y3, y4⟩ := qg_emK hm an2 (by omega) 22
            refine ⟨u2, ?_, y2, y3, y4⟩
            have y1' : zM_emit (nI 22) (nI 0) u1 = some u2 := y1
            rw [show qs_b false = nI 0 from rfl, show qs_b true = nI 1 from rfl]
            simp (disch := omega) only [↓reduceIte, zM_either_J73, zM_either_J90, qa_lit, qa_eqF, y1', Option.bind_some]
        obtain ⟨u2, or1, or2, or3, or4⟩ := orE
        have S2 : qt_S tl b h' u2 sp' nx' T' := qg_S_t hx (qg_fh.rf x h') or3 S1
        have rn := qg_rn_ask (k := k) (a := a) (o := o) (d := true) hseg hT1 gr
        rw [if_neg (show ¬ (o = true ∧ true = false) from fun q => by cases q.2)] at rn
        have gn2 : ∀ q ∈ qg_em (seg ++ ([T1 - 11] ++ (List.replicate k 20 ++ ((if a then [21] else []) ++ (if true = true ∧ o = true then [22] else []))))) lw', qg_nm s q := fun q hq => by
          rcases qg_em_mem _ _ hq with w | ⟨e', w1, w2⟩
          · exact gn q w
          · rw [w2]
            refine qg_nm_e ?_
            rcases List.mem_append.mp w1 with z | z
            · have := hseg e' z; omega
            · rcases List.mem_append.mp z with z | z
              · rw [List.mem_singleton] at z; omega
              · rcases List.mem_append.mp z with z | z
                · have := List.eq_of_mem_replicate z; omega
                · rcases List.mem_append.mp z with z | z
                  · cases a
                    · cases z
                    · rw [if_pos rfl, List.mem_singleton] at z; omega
                  · cases o
                    · rw [if_neg (by decide)] at z; cases z
                    · rw [if_pos ⟨rfl, rfl⟩, List.mem_singleton] at z; omega
        have elw2 : (qg_em (seg ++ ([T1 - 11] ++ (List.replicate k 20 ++ ((if a then [21] else []) ++ (if true = true ∧ o = true then [22] else []))))) lw' ++ ds0).length = (lw' ++ ds0).length + (seg.length + (1 + (k + ((if a then 1 else 0) + (if o then 1 else 0))))) := by
          rw [List.length_append, qg_em_len, List.length_append, List.length_append, List.length_append, List.length_append, List.length_replicate, List.length_append]
          cases a <;> cases o <;> simp <;> omega
        obtain ⟨n3, hn3⟩ : ∃ n3, n2 = n3 + 1 := ⟨n2 - 1, by omega⟩
        subst hn3
        by_cases tE : T' = 0 ∨ T' = 34
        · have spnx := S.2.2.2.2.2.2.2.2 (by omega)
          obtain ⟨h1, a1, a2, a3⟩ := qg_cE hx S hT1 hseg C (by omega) (by rw [wsl]; omega) (by rw [wsl]; omega) wsw wsc k8
          rw [if_pos (show T' ≠ 1 from t1), qg_em_app] at a2
          rw [show (if T' ≠ 1 ∧ o = true then [22] else []) = (if true = true ∧ o = true then [22] else []) by cases o <;> simp [t1]] at a2
          have S3 := qg_S_t hx a3 (qg_fu.rf m u2) S2
          have z7 : h1 55 7 = nI 0 := a2.2.2.2.2.1
          have z1 : h1 55 1 = nI 0 := a2.2.2.2.2.2.2.2
          by_cases t0 : T' = 0
          · obtain ⟨h2, u3, sp2, nx2, T2, d1, d2, d3, d4, d5⟩ := qt_go S3
            have spl2 : sp2 ≤ nx2 ∧ nx2 ≤ tl := ⟨d3.2.2.2.2.2.2.1, d3.2.2.2.2.2.2.2.1⟩
            rw [t0] at a2
            have A2 : qg_A tl b x m s ds0 false true 0 h2 u3 sp2 nx2 T2 (qg_em (seg ++ ([T1 - 11] ++ (List.replicate k 20 ++ ((if a then [21] else []) ++ (if true = true ∧ o = true then [22] else []))))) lw') := ⟨d3, qg_C_t hx d5.1 a2, ⟨by rw [d5.2.2 13 (by omega) (by omega) (by omega) (by omega)]; exact or2.1, by rw [d5.2.2 15 (by omega) (by omega) (by omega) (by omega)]; exact or2.2.1, by rw [d5.2.1 86 (by omega)]; exact or2.2.2⟩, ⟨by rw [d5.2.2 19 (by omega) (by omega) (by omega) (by omega), or4 19 (by omega), an4 19 (by omega)]; exact m19, by omega⟩, by rw [rn]; rfl, gn2, by
                rw [elw2, show (qg_b0 false true).length = 1 from rfl]
                omega, by rw [d5.2.2 21 (by omega) (by omega) (by omega) (by omega), or4 21 (by omega), an4 21 (by omega)]; exact g21⟩
            have l36 : zR_readLaw_L36 (n3 + 1) x (nI (s + 3)) (nI 0) (nI v4') h' = zR_readLaw_L36 n3 x (nI (s + 3)) (nI 0) (nI (v4' + 1)) h2 := by
              simp (disch := omega) only [↓reduceIte, zR_readLaw_L36.eq_2, zR_readLaw_J78, zR_readLaw_J79, qa_lit, qa_ltF, c10, c7, qa_eqF, e3, a1, Option.bind_some]
              simp (disch := omega) only [↓reduceIte, zR_readLaw_J101, zR_readLaw_J118, z7, z1, qa_lit, d1, Option.bind_some, nI_add]
            have eiG : zM_either_L6 (n1' + 1) (qs_b a) (qs_b o) (nI 1) u = zM_either_L6 n1' (qs_b false) (qs_b true) (nI 1) u3 := by
              rw [eiF, or1, decide_eq_true t0, show qs_b true = nI 1 from rfl, show qs_b false = nI 0 from rfl]
              simp (disch := omega) only [↓reduceIte, zM_either_J93, zM_either_J102, zM_either_J107, qa_lit, qa_eqF, d2, Option.bind_some]
            have ih := IH (tl - sp2) (by omega) n3 n1' (v4' + 1) false true h2 u3 sp2 nx2 T2 _ (by omega) (by omega) (by omega) (by omega) (by omega) A2 ((r4.tr a3.F).tr (qt_fr.H hx d5)) (((r5.tr an3.F).tr or3.F).tr (qt_fr.U d5))
            rw [r1, l36, eiG]
            rcases ih with ⟨f, p, f1, f6, x1, x2⟩ | ih | ⟨m2, v5, hb, u5, sp5, nx5, lw5, z1, z2, z3, z4, z5, z6, z7, z8, z9, z10, z11, z12, z13, z14, z15⟩
            · exact Or.inl ⟨f, p, f1, f6, x1, x2⟩
            · exact Or.inr (Or.inl ih)
            · exact Or.inr (Or.inr ⟨m2, v5, hb, u5, sp5, nx5, lw5, z1, z2, z3, z4, z5, z6, z7, z8, z9, z10, z11, z12, z13, by omega, z15⟩)
          · have t34 : T' = 34 := by omega
            refine Or.inr (Or.inr ⟨n3, v4', h1, u2, sp', nx', qg_em (seg ++ ([T1 - 11] ++ (List.replicate k 20 ++ ((if a then [21] else []) ++ (if true = true ∧ o = true then [22] else []))))) lw', ?_, ?_, by rw [← t34]; exact S3, a2.1, or2, rn, gn2, by rw [elw2]; omega, r4.tr a3.F, (r5.tr an3.F).tr or3.F, z1, by omega, r7, r8, by rw [or4 19 (by omega), an4 19 (by omega)]; exact m19⟩)
            · rw [r1]
              rw [t34] at e3
              simp (disch := omega) only [↓reduceIte, zR_readLaw_L36.eq_2, zR_readLaw_J79, qa_lit, qa_ltF, c10, c7, qa_eqF, e3, a1, Option.bind_some]
              simp (disch := omega) only [↓reduceIte, zR_readLaw_J101, zR_readLaw_J118, z7, z1, qa_lit, nI_add]
            · rw [eiF, or1, decide_eq_false t0, show qs_b false = nI 0 from rfl]
              obtain ⟨n4, hn4⟩ : ∃ n4, n1' = n4 + 1 := ⟨n1' - 1, by omega⟩
              subst hn4
              simp (disch := omega) only [↓reduceIte, zM_either_J93, zM_either_J107, qa_lit, zM_either_L6.eq_2]
        · have t0 : T' ≠ 0 := fun q => tE (Or.inl q)
          have t34 : T' ≠ 34 := fun q => tE (Or.inr q)
          refine Or.inr (Or.inl ⟨u2, sp', (qg_em (seg ++ ([T1 - 11] ++ (List.replicate k 20 ++ ((if a then [21] else []) ++ (if true = true ∧ o = true then [22] else []))))) lw' ++ ds0).length, ?_, ?_, S2.2.2.1.2, by rw [qt_is S2.2.2.2.2.1 (j := 34) (by omega) (by omega) (k := 59) rfl]; exact t34, (r5.tr an3.F).tr or3.F, or2.1, or2.2.1⟩)
          · rw [r1]
            refine qg_bad hx hs S C (by omega) (by rw [wsl]; omega) (fun t' ht' => ⟨qg_w39 (wsw t' (List.mem_of_mem_head? ht')), ?_⟩) nT (fun q => by omega) (fun q => by cases q.2.2.2) (fun q => by omega) hc e0 r4 (by omega) (by omega)
            cases hsg : seg with
            | nil =>
              rw [hsg, List.map_nil, List.nil_append] at ht'
              have := (hBc.1 t' (List.mem_of_mem_head? ht')).2.1
              omega
            | cons e l =>
              rw [hsg, List.map_cons, List.cons_append, List.head?_cons] at ht'
              have e36 := hseg e (by rw [hsg]; exact List.mem_cons_self)
              rw [← Option.some.inj ht']
              rcases (show e = 3 ∨ e = 4 ∨ e = 5 ∨ e = 6 by omega) with rfl | rfl | rfl | rfl <;> decide
          · rw [eiF, or1, decide_eq_false t0, show qs_b false = nI 0 from rfl]
            obtain ⟨n4, hn4⟩ : ∃ n4, n1' = n4 + 1 := ⟨n1' - 1, by omega⟩
            subst hn4
            simp (disch := omega) only [↓reduceIte, zM_either_J93, zM_either_J107, qa_lit, zM_either_L6.eq_2]
end
