/-! THE HEART: names, and laws asked for one case -/
/-- the names of a case: figure, kind, place, beat, and two more -/
def qn_c (f kd pl t x y : Int) : Nat → Int := fun v => if v = 0 then f else if v = 1 then kd else if v = 2 then pl else if v = 3 then t else if v % 2 = 0 then x else y
def qs_pl (a : Nat → Int32) (t f : Nat) : Nat := qv a (50 + 6 * t + f)
def qs_kd (a : Nat → Int32) (f : Nat) : Nat := qv a (20 + 2 * f)
/-- a law, asked of a figure in a beat -/
def qs_law (a tx : Nat → Int32) (s t f x y : Nat) : Bool := ql_so a tx s (qn_c f (qs_kd a f) (qs_pl a t f) t x y)
/-- in both heaps a law answers as it should -/
def qk_askH (x : Nat) (h : Nat → Nat → Int32) (a tx : Nat → Int32) : Prop := ∀ (s : Nat) (h' : Nat → Nat → Int32) (nm : Nat → Int), s < 3 → (∀ c, c ≤ 57 → h' c = h c) → (∀ v, v ≤ 3 ∨ v = 4 + 2 * s ∨ v = 5 + 2 * s → (h' 60 (qi_nm v)).toInt = nm v ∧ ql_sm (nm v)) → ∃ f', zL_isSo x (nI (s + 3)) h' = some (qs_b (ql_so a tx s nm), va_up h' 61 f')
def qk_askM (w : zHM) : Prop := ∀ (s : Nat) (w' : zHM) (nm : Nat → Int), s < 3 → w'.1 84 5 = w.1 84 5 → w'.1 86 = w.1 86 → (∀ v, v ≤ 3 ∨ v = 4 + 2 * s ∨ v = 5 + 2 * s → (w'.1 89 v).toInt = nm v ∧ ql_sm (nm v)) → ∃ w'', zM_isSo (nI s) w' = some (qs_b (ql_so (w.1 84) (w.1 86) s nm), w'') ∧ ql_fr w' w''
section
variable {k P pn fn tn bn pn' fn' tn' bn' tl : Nat} {h : Nat → Nat → Int32} {w : zHM}
theorem qk_ask (H : qi_core k P pn fn tn bn pn' fn' tn' bn' tl h w) : (∃ x, zH_ruling h = some x ∧ x ≤ 48 ∧ qk_askH x h (w.1 84) (w.1 86)) ∧ qk_askM w := by
  obtain ⟨-, HA, -, HS, -, -, -, HX, HE⟩ := H
  have s11 := (qi_stg0 HS).1.2.2.2.2.2.1
  have s12 := (qi_stg0 HS).1.2.2.2.2.2.2.1
  obtain ⟨⟨a0, a1, a4, a6, lpn, lfn, ltn, lbn⟩, -, -, A5, -⟩ := HA
  rcases A5 with e5 | ⟨r, hr, e5⟩
  · refine ⟨⟨48, ?_, Nat.le_refl 48, fun s h' nm hs he hn => ?_⟩, fun s w' nm hs e1 e2 hn => ?_⟩
    · simp (disch := omega) only [↓reduceIte, ↓qa_b, qa_b, qa_lit, qa_neg1, qa_qN, nI_add, pk_mul, qa_ix, qa_cl, qa_ltT, qa_ltF, qa_eqT, qa_eqF, qa_nN, qa_Nn, qa_ltN, qa_Nlt, qa_NN, qa_ltNN, qa_sub, qa_dec, qa_dec0, qa_sub0, qa_incN, qa_31, qa_shr, qa_shl, qa_and1, va_up_self, qa_une, pk_us, pk_un, qa_up2, qa_upd2, Option.bind_some, if_true, if_false, and_true, true_and, and_self, qa_f1, qa_f2, zH_ruling, zH_isText, s12, e5, qa_Nlt0]
    · refine ⟨h' 61, ?_⟩
      have eq : va_up h' 61 (h' 61) = h' := by funext j; unfold va_up; split <;> simp_all
      have q5 := (HE s hs).1
      have q6 := (HE s hs).2
      have f5 : h' 53 s = nI 0 := by rw [he 53 (by omega)]; exact q5
      have f6 : h' 54 s = nI 0 := by rw [he 54 (by omega)]; exact q6
      have e3 : s + 3 - 3 = s := by omega
      rw [eq]
      unfold ql_so
      rw [if_pos e5]
      simp (disch := omega) only [↓reduceIte, ↓qa_b, qa_b, qa_lit, qa_neg1, qa_qN, nI_add, pk_mul, qa_ix, qa_cl, qa_ltT, qa_ltF, qa_eqT, qa_eqF, qa_nN, qa_Nn, qa_ltN, qa_Nlt, qa_NN, qa_ltNN, qa_sub, qa_dec, qa_dec0, qa_sub0, qa_incN, qa_31, qa_shr, qa_shl, qa_and1, va_up_self, qa_une, pk_us, pk_un, qa_up2, qa_upd2, Option.bind_some, if_true, if_false, and_true, true_and, and_self, qa_f1, qa_f2, zL_isSo, zX_hasLaw, e3, f5, f6]
      rfl
    · refine ⟨w', ?_, ql_fr.rf w'⟩
      unfold ql_so
      rw [if_pos e5]
      have e5' : w'.1 84 5 = qN := e1.trans e5
      have e : am_N = 999999 + 1 := by decide
      have ec : ∀ n, zM_clauseOf_L2 (n + 1) (nI s) (nI 0) w' = some qN := fun n => by
        simp (disch := omega) only [↓reduceIte, ↓qa_b, qa_b, qa_lit, qa_neg1, qa_qN, nI_add, pk_mul, qa_ix, qa_cl, qa_ltT, qa_ltF, qa_eqT, qa_eqF, qa_nN, qa_Nn, qa_ltN, qa_Nlt, qa_NN, qa_ltNN, qa_sub, qa_dec, qa_dec0, qa_sub0, qa_incN, qa_31, qa_shr, qa_shl, qa_and1, va_up_self, qa_une, pk_us, pk_un, qa_up2, qa_upd2, Option.bind_some, if_true, if_false, and_true, true_and, and_self, qa_f1, qa_f2, zM_clauseOf_L2, e5', qa_Nlt0]
      have ec2 : zM_clauseOf (nI s) w' = some qN := by
        unfold zM_clauseOf
        rw [e]
        exact ec 999999
      simp (disch := omega) only [↓reduceIte, ↓qa_b, qa_b, qa_lit, qa_neg1, qa_qN, nI_add, pk_mul, qa_ix, qa_cl, qa_ltT, qa_ltF, qa_eqT, qa_eqF, qa_nN, qa_Nn, qa_ltN, qa_Nlt, qa_NN, qa_ltNN, qa_sub, qa_dec, qa_dec0, qa_sub0, qa_incN, qa_31, qa_shr, qa_shl, qa_and1, va_up_self, qa_une, pk_us, pk_un, qa_up2, qa_upd2, Option.bind_some, if_true, if_false, and_true, true_and, and_self, qa_f1, qa_f2, zM_isSo, ec2, qa_Nlt0]
      rfl
  · have hne : ¬ w.1 84 5 = qN := fun q => by rw [e5, qa_nN (by omega)] at q; exact q
    have ev : qv (w.1 84) 5 = r := by unfold qv; rw [e5, qa_cl (by omega)]
    refine ⟨⟨20 + 7 * r, ?_, by omega, fun s h' nm hs he hn => ?_⟩, fun s w' nm hs e1 e2 hn => ?_⟩
    · simp (disch := omega) only [↓reduceIte, ↓qa_b, qa_b, qa_lit, qa_neg1, qa_qN, nI_add, pk_mul, qa_ix, qa_cl, qa_ltT, qa_ltF, qa_eqT, qa_eqF, qa_nN, qa_Nn, qa_ltN, qa_Nlt, qa_NN, qa_ltNN, qa_sub, qa_dec, qa_dec0, qa_sub0, qa_incN, qa_31, qa_shr, qa_shl, qa_and1, va_up_self, qa_une, pk_us, pk_un, qa_up2, qa_upd2, Option.bind_some, if_true, if_false, and_true, true_and, and_self, qa_f1, qa_f2, zH_ruling, zH_isText, s12, s11, e5]
    · have HX2 : qi_txt (20 + 7 * r) (790 * r) h' (w.1 86) := qi_txt_h (fun c _ hc => he c (by omega)) (HX r hr)
      unfold ql_so
      rw [if_neg hne, ev]
      exact qlh_isSo (w := w) HX2 (by omega) hs hn
    · have HX2 : qi_txt (20 + 7 * r) (790 * r) h (w'.1 86) := by rw [e2]; exact HX r hr
      unfold ql_so
      rw [if_neg hne, ev, ← e2]
      exact qlm_isSo (e1.trans e5) (by omega) HX2 hs hn
end
/-- heaps of the reference that differ in the scratch of laws alone -/
def qf_s (w w' : zHM) : Prop := ∀ c, c ≠ 89 → c ≠ 91 → w'.1 c = w.1 c
theorem qf_s.rf (w : zHM) : qf_s w w := fun _ _ _ => rfl
theorem qf_s.tr {w w' w'' : zHM} (h : qf_s w w') (h' : qf_s w' w'') : qf_s w w'' := fun c a b => (h' c a b).trans (h c a b)
theorem qk_askM_s {w w' : zHM} (h : qk_askM w) (e : qf_s w w') : qk_askM w' := fun s u nm hs e1 e2 hn => by
  rw [e 84 (by omega) (by omega)] at e1 ⊢
  rw [e 86 (by omega) (by omega)] at e2 ⊢
  exact h s u nm hs e1 e2 hn
theorem qn_sm {z : Int} (h : 0 ≤ z ∧ z ≤ 100) : ql_sm z := by unfold ql_sm; omega
theorem qm_name {w : zHM} {t f : Nat} (ht : t < 24) (hf : f < 6) : zM_name (nI t) (nI f) w = some (va_up w.1 89 (upd (upd (upd (upd (w.1 89) 0 (nI f)) 1 (w.1 84 (20 + 2 * f))) 2 (w.1 84 (50 + 6 * t + f))) 3 (nI t)), w.2) := by
  simp (disch := omega) only [↓reduceIte, ↓qa_b, qa_b, qa_lit, qa_neg1, qa_qN, nI_add, pk_mul, qa_ix, qa_cl, qa_ltT, qa_ltF, qa_eqT, qa_eqF, qa_nN, qa_Nn, qa_ltN, qa_Nlt, qa_NN, qa_ltNN, qa_sub, qa_dec, qa_dec0, qa_sub0, qa_incN, qa_31, qa_shr, qa_shl, qa_and1, va_up_self, qa_une, pk_us, pk_un, qa_up2, qa_upd2, Option.bind_some, if_true, if_false, and_true, true_and, and_self, qa_f1, qa_f2, zM_name, zM_kindOf, zM_placeOf]
theorem qm_low : ∀ x, x < 64 → 0 < x → ∃ p, p < 6 ∧ (∀ n, zM_lowest_L2 (n + 7) (nI x) (nI 0) = some (nI p)) ∧ x.testBit p = true ∧ ∀ j, j < p → x.testBit j = false := by
  intro x hx h0
  have key : ∀ p, p ≤ 6 → ∀ n, (∀ j, j < p → x.testBit j = false) → zM_lowest_L2 (n + 7) (nI x) (nI 0) = zM_lowest_L2 (n + (7 - p)) (nI x) (nI p) := by
    intro p
    induction p with
    | zero => intro _ n _; rfl
    | succ p ih =>
      intro hp n hj
      rw [ih (by omega) n (fun j h => hj j (by omega))]
      have e : n + (7 - p) = (n + (7 - (p + 1))) + 1 := by omega
      rw [e]
      have hb := hj p (by omega)
      rw [zM_lowest_L2]
      simp (disch := omega) only [↓reduceIte, qa_lit, qa_31, qa_shr, qa_and1, qa_tb, hb, nI_add]
  have hex : ∃ p, p < 6 ∧ x.testBit p = true := by
    have : ∀ x, x < 64 → 0 < x → ∃ p, p < 6 ∧ x.testBit p = true := by decide +kernel
    exact this x hx h0
  obtain ⟨p, ⟨hp, hb⟩, hm⟩ := pk_least (fun p => p < 6 ∧ x.testBit p = true) hex
  have hno : ∀ j, j < p → x.testBit j = false := fun j hj => by
    have := hm j hj
    cases hc : x.testBit j
    · rfl
    · exact absurd ⟨by omega, hc⟩ this
  refine ⟨p, hp, fun n => ?_, hb, hno⟩
  rw [key p (by omega) n hno]
  have e : n + (7 - p) = (n + (6 - p)) + 1 := by omega
  rw [e, zM_lowest_L2]
  simp (disch := omega) only [↓reduceIte, qa_lit, qa_31, qa_shr, qa_and1, qa_tb, hb, Bool.true_eq_false]
theorem qm_lowest {x : Nat} (hx : x < 64) (h0 : 0 < x) : ∃ p, p < 6 ∧ zM_lowest (nI x) = some (nI p) ∧ x.testBit p = true ∧ ∀ j, j < p → x.testBit j = false := by
  obtain ⟨p, hp, e, h1, h2⟩ := qm_low x hx h0
  refine ⟨p, hp, ?_, h1, h2⟩
  have en : am_N = 999993 + 7 := by decide
  unfold zM_lowest
  rw [en]
  exact e 999993
/-- how many hands -/
def qs_bn (x : Nat) : Nat := x % 2 + x / 2 % 2 + x / 4 % 2 + x / 8 % 2 + x / 16 % 2 + x / 32 % 2
theorem qm_bits {x : Nat} (hx : x < 64) : zM_bits (nI x) = some (nI (qs_bn x)) := by
  have key : ∀ n, zM_bits_L4 (n + 7) (nI x) (nI 0) (nI 0) = some (nI (qs_bn x)) := fun n => by
    unfold qs_bn
    simp (disch := omega) only [↓reduceIte, ↓qa_b, zM_bits_L4, qa_ltT, qa_ltF, qa_lit, qa_31, qa_shr, qa_and1, nI_add, Nat.reduceAdd, Nat.zero_add, Nat.reducePow, Nat.div_one]
  have en : am_N = 999993 + 7 := by decide
  unfold zM_bits
  rw [en]
  exact key 999993
