/-! THE HEART: ill -/
def qk_o (pn p : Nat) : Nat := 2 ^ pn - 1 - 2 ^ p
theorem qt_ill : ∀ pn, pn < 4 → ∀ p, p < pn → (nI (2 ^ pn - 1) &&& (nI (2 ^ p) ^^^ qN) = nI (qk_o pn p)) ∧ qk_o pn p < 2 ^ pn := by decide +kernel
/-- swaps into a way: D those that change hands, G those that may -/
def qk_i (D G : Nat → Bool) : Nat → Nat → Nat → Nat
  | s, _, 0 => s
  | s, f, k + 1 => if D f then (if G f then qk_i D G (s + 1) (f + 1) k else 1000000) else qk_i D G s (f + 1) k
theorem qk_i_le {D G : Nat → Bool} : ∀ (k f s : Nat), s + k ≤ 1000000 → qk_i D G s f k ≤ 1000000
  | 0, f, s, h => by unfold qk_i; omega
  | k + 1, f, s, h => by
    unfold qk_i
    split
    · split
      · exact qk_i_le k (f + 1) (s + 1) (by omega)
      · exact Nat.le_refl _
    · exact qk_i_le k (f + 1) s (by omega)
def qk_iD (a : Nat → Int32) (st t : Nat) (x : Nat → Nat) (f : Nat) : Bool := qs_on a (t + 1) f && (qs_on a t f && decide (qs_x a t f ≠ qs_ho (qs_kd a f) st (x f)))
def qk_iG (a tx : Nat → Int32) (st t : Nat) (x : Nat → Nat) (f : Nat) : Bool := decide (qs_x a t f ≠ 0) && qs_law a tx 1 (t + 1) f (qs_lo (qs_x a t f) / 2) (qs_lo (qs_ho (qs_kd a f) st (x f)) / 2)
section
variable {L P pn fn tn bn : Nat} {w : zHM} {h : Nat → Nat → Int32} {hmo : Nat → Nat} {hk : Nat}
theorem qy_handsG {c : Nat} {o : Nat → Nat → Bool} {kd : Nat → Nat} {pv : Nat → Nat → Nat → Nat → Bool} (H : qy_L pn fn bn c o kd pv h) {x : Nat → Nat} (hx : ∀ g, x g < 8) {f : Nat} (hf : f < fn) : zS_handsIn (nI (qw_e x fn)) (nI f) h = some (zH_handsOf (nI (kd f)) (nI (x f))) := by
  obtain ⟨⟨l1, l2, l3, l4⟩, ⟨e0, e1, e2⟩, H66, -⟩ := id H
  have k1 := (H66 f hf).1
  have bX := qz_eb6 (x := x) hx l2
  have dX := qz_eg hx hf
  have es : zS_shiftOf (nI f) h = nI (3 * (fn - 1 - f)) := by
    simp (disch := omega) only [zS_shiftOf, e2, qa_lit, qa_sub, pk_mul]
  have s1 : fn - 1 - f < 6 := by omega
  generalize fn - 1 - f = m at *
  simp (disch := omega) only [↓reduceIte, ↓qa_b, zS_handsIn, qa_ix, qa_cl, es, k1, qa_31, qa_lit, qa_shr, qa_and7, dX]
theorem qx_on0 {a : Nat → Int32} {t f : Nat} (hf : f < fn) : qx_on a fn 0 t f = qs_on a t f := by
  unfold qx_on
  rw [decide_eq_true hf, Nat.zero_testBit, Bool.not_false, Bool.true_and, Bool.true_and]
theorem qh_toldL (HA : qi_a L P pn fn tn bn (w.1 84)) (HS : qi_stg 0 P pn fn tn bn h (w.1 84)) (H : qy_L pn fn bn 1 (qx_on (w.1 84) fn 0) (qs_kd (w.1 84)) (qe_pv (w.1 84) (w.1 86)) h) {st t : Nat} (hs : st < 2 ^ pn) (ht : t + 1 < bn) {x : Nat → Nat} (hx : ∀ g, x g < 6) (hx0 : ∀ f, f < fn → qs_on (w.1 84) (t + 1) f = true → qs_ho (qs_kd (w.1 84) f) st (x f) ≠ 0) : ∀ (k n f s : Nat), f + k = fn → k < n → s ≤ f → zS_swapsFromTold_L6 n (nI (t + 1)) (nI (qw_e x fn)) (nI s) (nI f) h = some (nI (qk_i (qk_iD (w.1 84) st t x) (qk_iG (w.1 84) (w.1 86) st t x) s f k))
  | 0, n + 1, f, s, hf, _, hsf => by
    obtain ⟨⟨l1, l2, l3, l4⟩, ⟨e0, e1, e2⟩, -⟩ := id H
    have : f = fn := by omega
    subst this
    simp (disch := omega) only [↓reduceIte, zS_swapsFromTold_L6, e2, qa_ltF, qk_i]
  | k + 1, n + 1, f, s, hf, hn, hsf => by
    obtain ⟨⟨l1, l2, l3, l4⟩, ⟨e0, e1, e2⟩, H66, H68, H70⟩ := id H
    have ff : f < fn := by omega
    have h8 := (qs_set_tb pn (by omega) st hs).1
    obtain ⟨-, k2⟩ := qi_kd HA ff
    have ih0 := qh_toldL HA HS H hs ht hx hx0 k n (f + 1) s (by omega) (by omega) (by omega)
    have ih1 := qh_toldL HA HS H hs ht hx hx0 k n (f + 1) (s + 1) (by omega) (by omega) (by omega)
    have eo := qh_staysOn HA HS ht ff
    rw [decide_eq_true (show 0 < t + 1 by omega), Bool.true_and, Nat.add_sub_cancel] at eo
    have eg := qy_handsG H (x := x) (fun g => Nat.lt_trans (hx g) (by decide)) ff
    obtain ⟨y1, y2, y3⟩ := qi_x HA (t := t) (by omega) ff
    have s9 := ((qi_stg0 HS).2.2.2.2.1 t f (by omega) ff).2
    rw [y1] at s9
    have et : nI (t + 1) - nI 1 = nI t := by rw [qa_sub (by omega), Nat.add_sub_cancel]
    rw [show qk_i (qk_iD (w.1 84) st t x) (qk_iG (w.1 84) (w.1 86) st t x) s f (k + 1) = (if qk_iD (w.1 84) st t x f then (if qk_iG (w.1 84) (w.1 86) st t x f then qk_i (qk_iD (w.1 84) st t x) (qk_iG (w.1 84) (w.1 86) st t x) (s + 1) (f + 1) k else 1000000) else qk_i (qk_iD (w.1 84) st t x) (qk_iG (w.1 84) (w.1 86) st t x) s (f + 1) k) from rfl]
    cases hst : (qs_on (w.1 84) (t + 1) f && qs_on (w.1 84) t f)
    · rw [hst] at eo
      have ed : qk_iD (w.1 84) st t x f = false := by
        unfold qk_iD
        rw [← Bool.and_assoc, hst, Bool.false_and]
      rw [ed, if_neg (by decide), ← ih0]
      simp (disch := omega) only [↓reduceIte, ↓qa_b, zS_swapsFromTold_L6, e2, qa_ltT, qa_lit, et, pk_mul, nI_add, qa_ix, qa_cl, eg, eo, Option.bind_some, qs_b0]
    · rw [hst] at eo
      have on := (Bool.and_eq_true _ _ ▸ hst : qs_on (w.1 84) (t + 1) f = true ∧ qs_on (w.1 84) t f = true)
      have n0 := hx0 f ff on.1
      have eY := (qt_hands (qs_kd (w.1 84) f) (by omega) st h8 (x f) (hx f)).resolve_left n0
      rw [eY] at eg
      have Y64 := qs_ho_lt (qs_kd (w.1 84) f) (by omega) st h8 (x f) (hx f)
      have Y4 := qs_ho_4 pn (by omega) st hs (qs_kd (w.1 84) f) (by omega) (x f) (hx f)
      by_cases he : qs_x (w.1 84) t f = qs_ho (qs_kd (w.1 84) f) st (x f)
      · have ed : qk_iD (w.1 84) st t x f = false := by
          unfold qk_iD
          rw [decide_eq_false (fun q => q he), Bool.and_false, Bool.and_false]
        rw [ed, if_neg (by decide), ← ih0]
        rw [he] at s9
        simp (disch := omega) only [↓reduceIte, ↓qa_b, zS_swapsFromTold_L6, e2, qa_ltT, qa_lit, et, pk_mul, nI_add, qa_ix, qa_cl, eg, eo, Option.bind_some, qs_b0, Bool.true_eq_false, s9]
      · have ed : qk_iD (w.1 84) st t x f = true := by
          unfold qk_iD
          rw [on.1, on.2, decide_eq_true he]
          rfl
        rw [ed, if_pos rfl]
        obtain ⟨xp, xl, x70, xb⟩ := H70 t ht f ff (by rw [qx_on0 ff]; exact on.2) (by rw [qx_on0 ff]; exact on.1)
        unfold qk_iG at ih0 ih1 ⊢
        by_cases h0 : qs_x (w.1 84) t f = 0
        · rw [decide_eq_false (fun q => q h0), Bool.false_and, if_neg (by decide)]
          have z0 : nI xp &&& nI 0 = nI 0 := by rw [fa_and, Nat.and_zero]
          simp (disch := omega) only [↓reduceIte, ↓qa_b, zS_swapsFromTold_L6, zH_swapBit, e2, qa_ltT, qa_lit, et, pk_mul, nI_add, qa_ix, qa_cl, eg, eo, Option.bind_some, qs_b0, Bool.true_eq_false, s9, h0, qa_eqF, x70, z0]
        · rw [decide_eq_true h0, Bool.true_and]
          have ew1 := qh_owner y3
          have ew2 := qh_owner Y64
          rw [qj_oh _ y3 (by omega)] at ew1
          rw [qj_oh _ Y64 (by omega)] at ew2
          have px : qs_lo (qs_x (w.1 84) t f) / 2 < pn := by
            rcases qj_lo4 pn (by omega) _ y3 with q | q | q
            · omega
            · omega
            · exact q
          have py : qs_lo (qs_ho (qs_kd (w.1 84) f) st (x f)) / 2 < pn := by
            rcases qj_lo4 pn (by omega) _ Y64 with q | q | q
            · omega
            · omega
            · exact q
          have hb := xb _ px _ py
          unfold qe_pv at hb
          rw [on.1, Bool.true_and] at hb
          generalize qs_lo (qs_x (w.1 84) t f) / 2 = p at *
          generalize qs_lo (qs_ho (qs_kd (w.1 84) f) st (x f)) / 2 = q at *
          have eS := qa_1shl (i := p * 3 + q) (by omega)
          have ea := qj_pand xl (show p * 3 + q < 9 by omega)
          rw [hb] at ea
          have step : zS_swapsFromTold_L6 (n + 1) (nI (t + 1)) (nI (qw_e x fn)) (nI s) (nI f) h = if qs_law (w.1 84) (w.1 86) 1 (t + 1) f p q = false then some (nI 1000000) else zS_swapsFromTold_L6 n (nI (t + 1)) (nI (qw_e x fn)) (nI (s + 1)) (nI (f + 1)) h := by
            simp (disch := omega) only [↓reduceIte, ↓qa_b, zS_swapsFromTold_L6, zH_swapBit, zH_passBit, e2, qa_ltT, qa_lit, et, pk_mul, nI_add, qa_ix, qa_cl, eg, eo, Option.bind_some, qs_b0, Bool.true_eq_false, s9, qa_eqF, x70, ew1, ew2, qa_31, eS, ea]
          rw [step]
          cases hr : qs_law (w.1 84) (w.1 86) 1 (t + 1) f p q
          · rfl
          · rw [if_neg (by decide), if_pos rfl]
            exact ih1
/-- the same in the reference -/
theorem qm_intoL (HA : qi_a L P pn fn tn bn (w.1 84)) (hP : P ≤ 8) (hask : qk_askM w) {st t i : Nat} (hs : st < 2 ^ pn) (ht : t + 1 < bn) (hi : i < 720) {x : Nat → Nat} (hx : ∀ g, x g < 6) (hx0 : ∀ f, f < fn → qs_on (w.1 84) (t + 1) f = true → qs_ho (qs_kd (w.1 84) f) st (x f) ≠ 0) (e92 : ∀ f, f < fn → w.1 92 (6 * (720 * (t + 1) + i) + f) = nI (if qs_on (w.1 84) (t + 1) f then qs_ho (qs_kd (w.1 84) f) st (x f) else 0)) : ∀ (k n f s : Nat) (u : zHM), f + k = fn → k < n → s ≤ f → qf_s w u → ∃ u', zM_swappedInto_L5 n (nI (t + 1)) (nI i) (nI s) (nI f) u = some (nI (qk_i (qk_iD (w.1 84) st t x) (qk_iG (w.1 84) (w.1 86) st t x) s f k), u') ∧ qf_s w u'
  | 0, n + 1, f, s, u, hf, _, hsf, fr => by
    obtain ⟨a0, a1, a4, a6, lpn, lfn, ltn, lbn⟩ := id HA.1
    have : f = fn := by omega
    subst this
    have b1 : u.1 84 1 = nI f := by rw [fr 84 (by omega) (by omega)]; exact a1
    refine ⟨u, ?_, fr⟩
    simp (disch := omega) only [↓reduceIte, zM_swappedInto_L5, b1, qa_ltF, qk_i]
  | k + 1, n + 1, f, s, u, hf, hn, hsf, fr => by
    obtain ⟨a0, a1, a4, a6, lpn, lfn, ltn, lbn⟩ := id HA.1
    have ff : f < fn := by omega
    have e84 := fr 84 (by omega) (by omega)
    have e86 := fr 86 (by omega) (by omega)
    have b1 : u.1 84 1 = nI fn := by rw [e84]; exact a1
    have h8 := (qs_set_tb pn (by omega) st hs).1
    obtain ⟨-, k2⟩ := qi_kd HA ff
    have E92 := e92 f ff
    rw [← fr 92 (by omega) (by omega)] at E92
    have ep := qm_placeOf (w := u) (t := t) (f := f) (by omega) (by omega)
    have eh := qm_heldBy (w := u) (t := t) (f := f) (by omega) (by omega)
    rw [e84] at ep eh
    obtain ⟨y1, y2, y3⟩ := qi_x HA (t := t) (by omega) ff
    rw [y1] at eh
    have et : nI (t + 1) - nI 1 = nI t := by rw [qa_sub (by omega), Nat.add_sub_cancel]
    rw [show qk_i (qk_iD (w.1 84) st t x) (qk_iG (w.1 84) (w.1 86) st t x) s f (k + 1) = (if qk_iD (w.1 84) st t x f then (if qk_iG (w.1 84) (w.1 86) st t x f then qk_i (qk_iD (w.1 84) st t x) (qk_iG (w.1 84) (w.1 86) st t x) (s + 1) (f + 1) k else 1000000) else qk_i (qk_iD (w.1 84) st t x) (qk_iG (w.1 84) (w.1 86) st t x) s (f + 1) k) from rfl]
    have skip : qk_iD (w.1 84) st t x f = false → zM_swappedInto_L5 (n + 1) (nI (t + 1)) (nI i) (nI s) (nI f) u = zM_swappedInto_L5 n (nI (t + 1)) (nI i) (nI s) (nI (f + 1)) u → ∃ u', zM_swappedInto_L5 (n + 1) (nI (t + 1)) (nI i) (nI s) (nI f) u = some (nI (if qk_iD (w.1 84) st t x f then (if qk_iG (w.1 84) (w.1 86) st t x f then qk_i (qk_iD (w.1 84) st t x) (qk_iG (w.1 84) (w.1 86) st t x) (s + 1) (f + 1) k else 1000000) else qk_i (qk_iD (w.1 84) st t x) (qk_iG (w.1 84) (w.1 86) st t x) s (f + 1) k), u') ∧ qf_s w u' := fun q1 q2 => by
      rw [q1, if_neg (by decide), q2]
      exact qm_intoL HA hP hask hs ht hi hx hx0 e92 k n (f + 1) s u (by omega) (by omega) (by omega) fr
    cases o1 : qs_on (w.1 84) (t + 1) f
    · rw [o1, if_neg (by decide)] at E92
      refine skip (by unfold qk_iD; rw [o1, Bool.false_and]) ?_
      simp (disch := omega) only [↓reduceIte, zM_swappedInto_L5, zM_setOf, b1, qa_ltT, qa_lit, pk_mul, nI_add, qa_ix, qa_cl, E92, Option.bind_some]
    · rw [o1, if_pos rfl] at E92
      have n0 := hx0 f ff o1
      have Y64 := qs_ho_lt (qs_kd (w.1 84) f) (by omega) st h8 (x f) (hx f)
      rcases qi_pl HA hP (show t < bn by omega) ff with ⟨o0, pl⟩ | ⟨o0, pl, plt, ple⟩
      · rw [pl] at ep
        refine skip (by unfold qk_iD; rw [o0, Bool.false_and, Bool.and_false]) ?_
        simp (disch := omega) only [↓reduceIte, zM_swappedInto_L5, zM_setOf, b1, qa_ltT, qa_lit, pk_mul, nI_add, qa_ix, qa_cl, E92, Option.bind_some, qa_eqF, et, ep, qa_Nlt0]
      · rw [ple] at ep
        by_cases he : qs_x (w.1 84) t f = qs_ho (qs_kd (w.1 84) f) st (x f)
        · refine skip (by unfold qk_iD; rw [decide_eq_false (fun q => q he), Bool.and_false, Bool.and_false]) ?_
          rw [he] at eh
          simp (disch := omega) only [↓reduceIte, zM_swappedInto_L5, zM_setOf, b1, qa_ltT, qa_ltF, qa_lit, pk_mul, nI_add, qa_ix, qa_cl, E92, Option.bind_some, qa_eqF, et, ep, eh]
        · have ed : qk_iD (w.1 84) st t x f = true := by
            unfold qk_iD
            rw [o1, o0, decide_eq_true he]
            rfl
          rw [ed, if_pos rfl]
          by_cases h0 : qs_x (w.1 84) t f = 0
          · have eG : qk_iG (w.1 84) (w.1 86) st t x f = false := by unfold qk_iG; rw [decide_eq_false (fun q => q h0), Bool.false_and]
            rw [eG, if_neg (by decide)]
            refine ⟨u, ?_, fr⟩
            rw [h0] at eh
            simp (disch := omega) only [↓reduceIte, zM_swappedInto_L5, zM_setOf, b1, qa_ltT, qa_ltF, qa_lit, pk_mul, nI_add, qa_ix, qa_cl, E92, Option.bind_some, qa_eqF, et, ep, eh]
          · obtain ⟨u1, c1, f1⟩ := qm_mayPass (w := u) (x := qs_x (w.1 84) t f) (y := qs_ho (qs_kd (w.1 84) f) st (x f)) (qi_a_s HA fr) hP (qk_askM_s hask fr) ht ff (by rw [e84]; exact o1) y3 (by omega) Y64 (by omega)
            rw [e84, e86] at c1
            have fr1 := fr.tr f1
            have eG : qk_iG (w.1 84) (w.1 86) st t x f = qs_law (w.1 84) (w.1 86) 1 (t + 1) f (qs_lo (qs_x (w.1 84) t f) / 2) (qs_lo (qs_ho (qs_kd (w.1 84) f) st (x f)) / 2) := by unfold qk_iG; rw [decide_eq_true h0, Bool.true_and]
            cases hl : qs_law (w.1 84) (w.1 86) 1 (t + 1) f (qs_lo (qs_x (w.1 84) t f) / 2) (qs_lo (qs_ho (qs_kd (w.1 84) f) st (x f)) / 2)
            · rw [hl] at c1 eG
              rw [eG, if_neg (by decide)]
              refine ⟨u1, ?_, fr1⟩
              simp (disch := omega) only [↓reduceIte, zM_swappedInto_L5, zM_setOf, b1, qa_ltT, qa_ltF, qa_lit, pk_mul, nI_add, qa_ix, qa_cl, E92, Option.bind_some, qa_eqF, et, ep, eh, c1, qs_b0]
            · rw [hl] at c1 eG
              rw [eG, if_pos rfl]
              obtain ⟨u', e, fr'⟩ := qm_intoL HA hP hask hs ht hi hx hx0 e92 k n (f + 1) (s + 1) u1 (by omega) (by omega) (by omega) fr1
              refine ⟨u', ?_, fr'⟩
              rw [← e]
              simp (disch := omega) only [↓reduceIte, zM_swappedInto_L5, zM_setOf, b1, qa_ltT, qa_ltF, qa_lit, pk_mul, nI_add, qa_ix, qa_cl, E92, Option.bind_some, qa_eqF, et, ep, eh, c1, qs_b0, Bool.true_eq_false]
end
