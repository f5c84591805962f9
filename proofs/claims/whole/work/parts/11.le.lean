/-! MORE LOCALS DO NO HARM -/
def am_nd : am_L → Bool
  | [] => true
  | q :: l => (l.all fun p => !(Nat.beq p.1 q.1)) && am_nd l
def am_le (lv0 lv : am_L) : Prop := (∀ q ∈ lv0, q ∈ lv) ∧ am_nd lv = true
def am_leA : am_A → am_A → Prop
  | .inl (F0, S0), .inl (F, S) => F.1 = F0.1 ∧ F.2.2 = F0.2.2 ∧ S = S0 ∧ am_le F0.2.1 F.2.1
  | .inr (.inl (mi0, As0, F0)), .inr (.inl (mi, As, F)) => mi = mi0 ∧ As = As0 ∧ F.1 = F0.1 ∧ F.2.2 = F0.2.2 ∧ am_le F0.2.1 F.2.1
  | .inr (.inr r0), .inr (.inr r) => r = r0
  | _, _ => False
theorem am_nd_loc {i : Nat} {v : Value} : ∀ {lv : am_L}, am_nd lv = true → (i, v) ∈ lv → am_loc i lv = some v
  | [], _, h => by cases h
  | q :: l, hn, h => by
    unfold am_nd at hn
    rw [Bool.and_eq_true] at hn
    unfold am_loc
    rcases List.mem_cons.mp h with e | h
    · subst e
      rw [show Nat.beq i i = true from Nat.beq_refl i]; rfl
    · cases hb : Nat.beq q.1 i with
      | true =>
        have := List.all_eq_true.mp hn.1 _ h
        rw [am_beq hb] at this
        rw [show Nat.beq i i = true from Nat.beq_refl i] at this
        cases this
      | false => exact am_nd_loc hn.2 h
theorem am_le_loc {lv0 lv : am_L} (h : am_le lv0 lv) {i : Nat} {v : Value} (hv : am_loc i lv0 = some v) : am_loc i lv = some v := am_nd_loc h.2 (h.1 _ (am_loc_mem hv))
theorem am_nd_filter (p : Nat × Value → Bool) : ∀ {lv : am_L}, am_nd lv = true → am_nd (lv.filter p) = true
  | [], _ => rfl
  | q :: l, hn => by
    unfold am_nd at hn
    rw [Bool.and_eq_true] at hn
    rw [List.filter_cons]
    split
    · unfold am_nd
      rw [Bool.and_eq_true]
      refine ⟨List.all_eq_true.mpr fun x hx => ?_, am_nd_filter p hn.2⟩
      exact List.all_eq_true.mp hn.1 x (List.mem_filter.mp hx).1
    · exact am_nd_filter p hn.2
theorem am_le_cons {lv0 lv : am_L} (p : Nat × Value → Bool) (i : Nat) (v : Value) (hp : ∀ q, p q = true → Nat.beq q.1 i = false) (h : am_le lv0 lv) : am_le ((i, v) :: lv0.filter p) ((i, v) :: lv.filter p) := by
  refine ⟨fun q hq => ?_, ?_⟩
  · rcases List.mem_cons.mp hq with e | hq
    · rw [e]; exact List.mem_cons_self
    · have := List.mem_filter.mp hq
      exact List.mem_cons_of_mem _ (List.mem_filter.mpr ⟨h.1 _ this.1, this.2⟩)
  · unfold am_nd
    rw [Bool.and_eq_true]
    refine ⟨List.all_eq_true.mpr fun x hx => ?_, am_nd_filter p h.2⟩
    rw [hp x (List.mem_filter.mp hx).2]; rfl
theorem am_bne {a b : Nat} (h : (!(a == b)) = true) : Nat.beq a b = false := by
  cases hb : Nat.beq a b with
  | false => rfl
  | true =>
    rw [am_beq hb] at h
    simp at h
theorem am_le_st1 {lv0 lv : am_L} {i : Nat} {v : Value} (h : am_le lv0 lv) : am_le (am_st1 lv0 i v) (am_st1 lv i v) :=
  am_le_cons _ i v (fun q hq => am_bne ((Bool.and_eq_true _ _).mp hq).1) h
theorem am_le_st2 {lv0 lv : am_L} {i : Nat} {v : Value} (h : am_le lv0 lv) : am_le (am_st2 lv0 i v) (am_st2 lv i v) :=
  am_le_cons _ i v (fun q hq => am_bne ((Bool.and_eq_true _ _).mp hq).1) h
/-- a step that doesn't look at the locals -/
def am_lvp (f : am_L → Option am_A) : Prop := (∀ lv, f lv = none) ∨ (∃ pc st S, ∀ lv, f lv = some (.inl ((pc, lv, st), S))) ∨ (∃ mi As pc st, ∀ lv, f lv = some (.inr (.inl (mi, As, (pc, lv, st)))))
theorem am_lvf (f : am_L → Option am_A) (hf : am_lvp f) {lv0 lv : am_L} (hle : am_le lv0 lv) {A0 : am_A} (h : f lv0 = some A0) : ∃ A, f lv = some A ∧ am_leA A0 A := by
  rcases hf with hf | ⟨pc, st, S, hf⟩ | ⟨mi, As, pc, st, hf⟩
  · rw [hf] at h; cases h
  · rw [hf] at h; cases h
    exact ⟨_, hf lv, rfl, rfl, rfl, hle⟩
  · rw [hf] at h; cases h
    exact ⟨_, hf lv, rfl, rfl, rfl, rfl, hle⟩
theorem am_gf_lv {k kd ci pc : Nat} {st : List Value} {S : am_S} {Tk : Nat} : am_lvp (fun lv => am_gf k kd ci pc lv st S Tk) := by
  unfold am_gf
  simp only [cond_eq_ite]
  repeat' split
  all_goals first | exact Or.inl (fun _ => rfl) | exact Or.inr (Or.inl ⟨_, _, _, fun _ => rfl⟩) | exact Or.inr (Or.inr ⟨_, _, _, _, fun _ => rfl⟩)
theorem am_pf_lv {k kd ci pc : Nat} {st : List Value} {S : am_S} {Tk : Nat} : am_lvp (fun lv => am_pf k kd ci pc lv st S Tk) := by
  unfold am_pf
  simp only [cond_eq_ite]
  repeat' split
  all_goals first | exact Or.inl (fun _ => rfl) | exact Or.inr (Or.inl ⟨_, _, _, fun _ => rfl⟩) | exact Or.inr (Or.inr ⟨_, _, _, _, fun _ => rfl⟩)
theorem am_ald_lv {tag pc : Nat} {st : List Value} {S : am_S} {Tk : Nat} : am_lvp (fun lv => am_ald tag pc lv st S Tk) := by
  unfold am_ald
  simp only [cond_eq_ite]
  repeat' split
  all_goals first | exact Or.inl (fun _ => rfl) | exact Or.inr (Or.inl ⟨_, _, _, fun _ => rfl⟩) | exact Or.inr (Or.inr ⟨_, _, _, _, fun _ => rfl⟩)
theorem am_lld_lv {pc : Nat} {st : List Value} {S : am_S} : am_lvp (fun lv => am_lld pc lv st S) := by
  unfold am_lld
  simp only [cond_eq_ite]
  repeat' split
  all_goals first | exact Or.inl (fun _ => rfl) | exact Or.inr (Or.inl ⟨_, _, _, fun _ => rfl⟩) | exact Or.inr (Or.inr ⟨_, _, _, _, fun _ => rfl⟩)
theorem am_rld_lv {pc : Nat} {st : List Value} {S : am_S} : am_lvp (fun lv => am_rld pc lv st S) := by
  unfold am_rld
  simp only [cond_eq_ite]
  repeat' split
  all_goals first | exact Or.inl (fun _ => rfl) | exact Or.inr (Or.inl ⟨_, _, _, fun _ => rfl⟩) | exact Or.inr (Or.inr ⟨_, _, _, _, fun _ => rfl⟩)
theorem am_ast_lv {pc : Nat} {st : List Value} {S : am_S} {Tk : Nat} : am_lvp (fun lv => am_ast pc lv st S Tk) := by
  unfold am_ast
  simp only [cond_eq_ite]
  repeat' split
  all_goals first | exact Or.inl (fun _ => rfl) | exact Or.inr (Or.inl ⟨_, _, _, fun _ => rfl⟩) | exact Or.inr (Or.inr ⟨_, _, _, _, fun _ => rfl⟩)
theorem am_bst_lv {pc : Nat} {st : List Value} {S : am_S} {Tk : Nat} : am_lvp (fun lv => am_bst pc lv st S Tk) := by
  unfold am_bst
  simp only [cond_eq_ite]
  repeat' split
  all_goals first | exact Or.inl (fun _ => rfl) | exact Or.inr (Or.inl ⟨_, _, _, fun _ => rfl⟩) | exact Or.inr (Or.inr ⟨_, _, _, _, fun _ => rfl⟩)
theorem am_lst_lv {pc : Nat} {st : List Value} {S : am_S} : am_lvp (fun lv => am_lst pc lv st S) := by
  unfold am_lst
  simp only [cond_eq_ite]
  repeat' split
  all_goals first | exact Or.inl (fun _ => rfl) | exact Or.inr (Or.inl ⟨_, _, _, fun _ => rfl⟩) | exact Or.inr (Or.inr ⟨_, _, _, _, fun _ => rfl⟩)
theorem am_rst_lv {ci pc : Nat} {st : List Value} {S : am_S} : am_lvp (fun lv => am_rst ci pc lv st S) := by
  unfold am_rst
  simp only [cond_eq_ite]
  repeat' split
  all_goals first | exact Or.inl (fun _ => rfl) | exact Or.inr (Or.inl ⟨_, _, _, fun _ => rfl⟩) | exact Or.inr (Or.inr ⟨_, _, _, _, fun _ => rfl⟩)
theorem am_len_lv {pc : Nat} {st : List Value} {S : am_S} : am_lvp (fun lv => am_len pc lv st S) := by
  unfold am_len
  simp only [cond_eq_ite]
  repeat' split
  all_goals first | exact Or.inl (fun _ => rfl) | exact Or.inr (Or.inl ⟨_, _, _, fun _ => rfl⟩) | exact Or.inr (Or.inr ⟨_, _, _, _, fun _ => rfl⟩)
theorem am_mka_lv {tag pc : Nat} {st : List Value} {S : am_S} {Tk : Nat} : am_lvp (fun lv => am_mka tag pc lv st S Tk) := by
  unfold am_mka
  simp only [cond_eq_ite]
  repeat' split
  all_goals first | exact Or.inl (fun _ => rfl) | exact Or.inr (Or.inl ⟨_, _, _, fun _ => rfl⟩) | exact Or.inr (Or.inr ⟨_, _, _, _, fun _ => rfl⟩)
theorem am_cpy_lv {pc : Nat} {st : List Value} {S : am_S} {Tk : Nat} : am_lvp (fun lv => am_cpy pc lv st S Tk) := by
  unfold am_cpy
  simp only [cond_eq_ite]
  repeat' split
  all_goals first | exact Or.inl (fun _ => rfl) | exact Or.inr (Or.inl ⟨_, _, _, fun _ => rfl⟩) | exact Or.inr (Or.inr ⟨_, _, _, _, fun _ => rfl⟩)
theorem am_xld_lv {Xs : Nat × (Nat → Int32)} {pc : Nat} {st : List Value} {S : am_S} : am_lvp (fun lv => am_xld Xs pc lv st S) := by
  unfold am_xld
  simp only [cond_eq_ite]
  repeat' split
  all_goals first | exact Or.inl (fun _ => rfl) | exact Or.inr (Or.inl ⟨_, _, _, fun _ => rfl⟩) | exact Or.inr (Or.inr ⟨_, _, _, _, fun _ => rfl⟩)
theorem am_xln_lv {Xs : Nat × (Nat → Int32)} {pc : Nat} {st : List Value} {S : am_S} : am_lvp (fun lv => am_xln Xs pc lv st S) := by
  unfold am_xln
  simp only [cond_eq_ite]
  repeat' split
  all_goals first | exact Or.inl (fun _ => rfl) | exact Or.inr (Or.inl ⟨_, _, _, fun _ => rfl⟩) | exact Or.inr (Or.inr ⟨_, _, _, _, fun _ => rfl⟩)
theorem am_chr_lv {ts : List Nat} {pc : Nat} {st : List Value} {S : am_S} : am_lvp (fun lv => am_chr ts pc lv st S) := by
  unfold am_chr
  simp only [cond_eq_ite]
  repeat' split
  all_goals first | exact Or.inl (fun _ => rfl) | exact Or.inr (Or.inl ⟨_, _, _, fun _ => rfl⟩) | exact Or.inr (Or.inr ⟨_, _, _, _, fun _ => rfl⟩)
theorem am_cv_lv {mi n ci pc : Nat} {st : List Value} {S : am_S} : am_lvp (fun lv => am_cv mi n ci pc lv st S) := by
  unfold am_cv
  simp only [cond_eq_ite]
  repeat' split
  all_goals first | exact Or.inl (fun _ => rfl) | exact Or.inr (Or.inl ⟨_, _, _, fun _ => rfl⟩) | exact Or.inr (Or.inr ⟨_, _, _, _, fun _ => rfl⟩)
theorem am_cs_lv {mi n pc : Nat} {st : List Value} : am_lvp (fun lv => am_cs mi n pc lv st) := by
  unfold am_cs
  simp only [cond_eq_ite]
  repeat' split
  all_goals first | exact Or.inl (fun _ => rfl) | exact Or.inr (Or.inl ⟨_, _, _, fun _ => rfl⟩) | exact Or.inr (Or.inr ⟨_, _, _, _, fun _ => rfl⟩)
theorem am_ci_lv {mi n pc : Nat} {st : List Value} : am_lvp (fun lv => am_ci mi n pc lv st) := by
  unfold am_ci
  simp only [cond_eq_ite]
  repeat' split
  all_goals first | exact Or.inl (fun _ => rfl) | exact Or.inr (Or.inl ⟨_, _, _, fun _ => rfl⟩) | exact Or.inr (Or.inr ⟨_, _, _, _, fun _ => rfl⟩)
theorem am_co_lv {pc : Nat} {st : List Value} {S : am_S} : am_lvp (fun lv => am_co pc lv st S) := by
  unfold am_co
  simp only [cond_eq_ite]
  repeat' split
  all_goals first | exact Or.inl (fun _ => rfl) | exact Or.inr (Or.inl ⟨_, _, _, fun _ => rfl⟩) | exact Or.inr (Or.inr ⟨_, _, _, _, fun _ => rfl⟩)
theorem am_retr {rt : Nat} {st : List Value} {A : am_A} (h : am_ret rt st = some A) : ∃ r, A = .inr (.inr r) := by
  unfold am_ret at h
  split at h
  all_goals first | exact ⟨_, (Option.some.inj h).symm⟩ | cases h
theorem am_rtlr {rt : Nat} {st : List Value} {A : am_A} (h : am_rtl rt st = some A) : ∃ r, A = .inr (.inr r) := by
  unfold am_rtl at h
  split at h
  all_goals first | exact ⟨_, (Option.some.inj h).symm⟩ | cases h
theorem am_rtar {rt : Nat} {st : List Value} {A : am_A} (h : am_rta rt st = some A) : ∃ r, A = .inr (.inr r) := by
  unfold am_rta at h
  split at h
  all_goals first | exact ⟨_, (Option.some.inj h).symm⟩ | cases h
theorem am_rtvr {rt : Nat} {st : List Value} {A : am_A} (h : am_rtv rt st = some A) : ∃ r, A = .inr (.inr r) := by
  unfold am_rtv at h
  split at h
  all_goals first | exact ⟨_, (Option.some.inj h).symm⟩ | cases h
theorem am_lvr {o : Option am_A} {A0 : am_A} (h : o = some A0) (hr : ∃ r, A0 = .inr (.inr r)) : ∃ A, o = some A ∧ am_leA A0 A := by
  obtain ⟨r, rfl⟩ := hr
  exact ⟨_, h, rfl⟩
set_option maxHeartbeats 4000000 in
theorem am_step_le {Tk nL rt : Nat} {Xs : Nat × (Nat → Int32)} {E : am_E} {lv0 lv : am_L} (hle : am_le lv0 lv) {st : List Value} {S : am_S} {A0 : am_A} (h : am_step Tk Xs nL rt E lv0 st S = some A0) : ∃ A, am_step Tk Xs nL rt E lv st S = some A ∧ am_leA A0 A := by
  obtain ⟨pc, I, a, b, x, z, ts⟩ := E
  cases I with
  | iconst n => cases h; exact ⟨_, rfl, rfl, rfl, rfl, hle⟩
  | bipush n => cases h; exact ⟨_, rfl, rfl, rfl, rfl, hle⟩
  | sipush n => cases h; exact ⟨_, rfl, rfl, rfl, rfl, hle⟩
  | ldc_w i => cases h; exact ⟨_, rfl, rfl, rfl, rfl, hle⟩
  | lconst n => cases h; exact ⟨_, rfl, rfl, rfl, rfl, hle⟩
  | ldc2_w i => cases h; exact ⟨_, rfl, rfl, rfl, rfl, hle⟩
  | goto off => cases h; exact ⟨_, rfl, rfl, rfl, rfl, hle⟩
  | new i =>
    have h2 : am_nx (pc + 3) lv0 (.ref S.1.length :: st) (am_new Tk S (a + 4, b, List.replicate b none)) = some A0 := h
    cases h2
    exact ⟨_, rfl, rfl, rfl, rfl, hle⟩
  | ldc i =>
    have h2 : (bif Nat.beq a 0 then am_nx (pc + 2) lv0 (.int x :: st) S else am_nx (pc + 2) lv0 (.retAddr 0 :: st) S) = some A0 := h
    have e2 : am_step Tk Xs nL rt (pc, .ldc i, a, b, x, z, ts) lv st S = (bif Nat.beq a 0 then am_nx (pc + 2) lv (.int x :: st) S else am_nx (pc + 2) lv (.retAddr 0 :: st) S) := rfl
    rw [e2]
    cases hb : Nat.beq a 0 with
    | true => rw [hb] at h2; cases h2; exact ⟨_, rfl, rfl, rfl, rfl, hle⟩
    | false => rw [hb] at h2; cases h2; exact ⟨_, rfl, rfl, rfl, rfl, hle⟩
  | iload i =>
    obtain ⟨v, hv, he⟩ := am_ldi_inv h
    cases he
    refine ⟨.inl ((pc + 2, lv, .int v :: st), S), ?_, rfl, rfl, rfl, hle⟩
    show am_ldi i (pc + 2) lv st S = _
    unfold am_ldi
    rw [am_le_loc hle hv]
    rfl
  | iload_n i =>
    obtain ⟨v, hv, he⟩ := am_ldi_inv h
    cases he
    refine ⟨.inl ((pc + 1, lv, .int v :: st), S), ?_, rfl, rfl, rfl, hle⟩
    show am_ldi i (pc + 1) lv st S = _
    unfold am_ldi
    rw [am_le_loc hle hv]
    rfl
  | lload i =>
    obtain ⟨v, hv, he⟩ := am_ldl_inv h
    cases he
    refine ⟨.inl ((pc + 2, lv, .long v :: st), S), ?_, rfl, rfl, rfl, hle⟩
    show am_ldl i (pc + 2) lv st S = _
    unfold am_ldl
    rw [am_le_loc hle hv]
    rfl
  | lload_n i =>
    obtain ⟨v, hv, he⟩ := am_ldl_inv h
    cases he
    refine ⟨.inl ((pc + 1, lv, .long v :: st), S), ?_, rfl, rfl, rfl, hle⟩
    show am_ldl i (pc + 1) lv st S = _
    unfold am_ldl
    rw [am_le_loc hle hv]
    rfl
  | aload i =>
    obtain ⟨v, hv, hrf, he⟩ := am_lda_inv h
    cases he
    refine ⟨.inl ((pc + 2, lv, v :: st), S), ?_, rfl, rfl, rfl, hle⟩
    have h3 : am_lda i (pc + 2) lv0 st S = some (.inl ((pc + 2, lv0, v :: st), S)) := h
    show am_lda i (pc + 2) lv st S = _
    unfold am_lda at h3 ⊢
    rw [am_le_loc hle hv]
    rw [hv] at h3
    cases v <;> first | rfl | cases h3
  | aload_n i =>
    obtain ⟨v, hv, hrf, he⟩ := am_lda_inv h
    cases he
    refine ⟨.inl ((pc + 1, lv, v :: st), S), ?_, rfl, rfl, rfl, hle⟩
    have h3 : am_lda i (pc + 1) lv0 st S = some (.inl ((pc + 1, lv0, v :: st), S)) := h
    show am_lda i (pc + 1) lv st S = _
    unfold am_lda at h3 ⊢
    rw [am_le_loc hle hv]
    rw [hv] at h3
    cases v <;> first | rfl | cases h3
  | istore i =>
    obtain ⟨v, st', rfl, hi, he⟩ := am_sti_inv h
    cases he
    refine ⟨.inl ((pc + 2, am_st1 lv i (.int v), st'), S), ?_, rfl, rfl, rfl, am_le_st1 hle⟩
    show (bif Nat.blt _ nL then _ else none) = _
    rw [am_blt, decide_eq_true hi]
    rfl
  | istore_n i =>
    obtain ⟨v, st', rfl, hi, he⟩ := am_sti_inv h
    cases he
    refine ⟨.inl ((pc + 1, am_st1 lv i (.int v), st'), S), ?_, rfl, rfl, rfl, am_le_st1 hle⟩
    show (bif Nat.blt _ nL then _ else none) = _
    rw [am_blt, decide_eq_true hi]
    rfl
  | lstore i =>
    obtain ⟨v, st', rfl, hi, he⟩ := am_stl_inv h
    cases he
    refine ⟨.inl ((pc + 2, am_st2 lv i (.long v), st'), S), ?_, rfl, rfl, rfl, am_le_st2 hle⟩
    show (bif Nat.blt _ nL then _ else none) = _
    rw [am_blt, decide_eq_true hi]
    rfl
  | lstore_n i =>
    obtain ⟨v, st', rfl, hi, he⟩ := am_stl_inv h
    cases he
    refine ⟨.inl ((pc + 1, am_st2 lv i (.long v), st'), S), ?_, rfl, rfl, rfl, am_le_st2 hle⟩
    show (bif Nat.blt _ nL then _ else none) = _
    rw [am_blt, decide_eq_true hi]
    rfl
  | astore i =>
    obtain ⟨v, st', rfl, hi, he⟩ := am_sta_inv h
    cases he
    refine ⟨.inl ((pc + 2, am_st1 lv i (.ref v), st'), S), ?_, rfl, rfl, rfl, am_le_st1 hle⟩
    show (bif Nat.blt _ nL then _ else none) = _
    rw [am_blt, decide_eq_true hi]
    rfl
  | astore_n i =>
    obtain ⟨v, st', rfl, hi, he⟩ := am_sta_inv h
    cases he
    refine ⟨.inl ((pc + 1, am_st1 lv i (.ref v), st'), S), ?_, rfl, rfl, rfl, am_le_st1 hle⟩
    show (bif Nat.blt _ nL then _ else none) = _
    rw [am_blt, decide_eq_true hi]
    rfl
  | iinc i n =>
    obtain ⟨v, hv, hi, he⟩ := am_inc_inv h
    cases he
    refine ⟨.inl ((pc + 3, am_st1 lv i (.int (v + x)), st), S), ?_, rfl, rfl, rfl, am_le_st1 hle⟩
    show am_inc nL i (pc + 3) x lv st S = _
    unfold am_inc
    rw [am_le_loc hle hv]
    show (bif Nat.blt i nL then _ else none) = _
    rw [am_blt, decide_eq_true hi]
    rfl
  | iadd => obtain ⟨_, _, _, rfl, he⟩ := am_i2_inv h; cases he; exact ⟨_, rfl, rfl, rfl, rfl, hle⟩
  | isub => obtain ⟨_, _, _, rfl, he⟩ := am_i2_inv h; cases he; exact ⟨_, rfl, rfl, rfl, rfl, hle⟩
  | imul => obtain ⟨_, _, _, rfl, he⟩ := am_i2_inv h; cases he; exact ⟨_, rfl, rfl, rfl, rfl, hle⟩
  | iand => obtain ⟨_, _, _, rfl, he⟩ := am_i2_inv h; cases he; exact ⟨_, rfl, rfl, rfl, rfl, hle⟩
  | ior => obtain ⟨_, _, _, rfl, he⟩ := am_i2_inv h; cases he; exact ⟨_, rfl, rfl, rfl, rfl, hle⟩
  | ixor => obtain ⟨_, _, _, rfl, he⟩ := am_i2_inv h; cases he; exact ⟨_, rfl, rfl, rfl, rfl, hle⟩
  | ishl => obtain ⟨_, _, _, rfl, he⟩ := am_i2_inv h; cases he; exact ⟨_, rfl, rfl, rfl, rfl, hle⟩
  | ishr => obtain ⟨_, _, _, rfl, he⟩ := am_i2_inv h; cases he; exact ⟨_, rfl, rfl, rfl, rfl, hle⟩
  | iushr => obtain ⟨_, _, _, rfl, he⟩ := am_i2_inv h; cases he; exact ⟨_, rfl, rfl, rfl, rfl, hle⟩
  | ineg => obtain ⟨_, _, rfl, he⟩ := am_i1_inv h; cases he; exact ⟨_, rfl, rfl, rfl, rfl, hle⟩
  | idiv => obtain ⟨_, _, _, rfl, h0, he⟩ := am_iz_inv h; cases he; exact ⟨_, if_neg h0, rfl, rfl, rfl, hle⟩
  | irem => obtain ⟨_, _, _, rfl, h0, he⟩ := am_iz_inv h; cases he; exact ⟨_, if_neg h0, rfl, rfl, rfl, hle⟩
  | ladd => obtain ⟨_, _, _, rfl, he⟩ := am_l2_inv h; cases he; exact ⟨_, rfl, rfl, rfl, rfl, hle⟩
  | lsub => obtain ⟨_, _, _, rfl, he⟩ := am_l2_inv h; cases he; exact ⟨_, rfl, rfl, rfl, rfl, hle⟩
  | lmul => obtain ⟨_, _, _, rfl, he⟩ := am_l2_inv h; cases he; exact ⟨_, rfl, rfl, rfl, rfl, hle⟩
  | lor => obtain ⟨_, _, _, rfl, he⟩ := am_l2_inv h; cases he; exact ⟨_, rfl, rfl, rfl, rfl, hle⟩
  | ldiv => obtain ⟨_, _, _, rfl, h0, he⟩ := am_lz_inv h; cases he; exact ⟨_, if_neg h0, rfl, rfl, rfl, hle⟩
  | lneg => obtain ⟨_, _, rfl, he⟩ := am_l1_inv h; cases he; exact ⟨_, rfl, rfl, rfl, rfl, hle⟩
  | lshl => obtain ⟨_, _, _, rfl, he⟩ := am_li_inv h; cases he; exact ⟨_, rfl, rfl, rfl, rfl, hle⟩
  | lcmp => obtain ⟨_, _, _, rfl, he⟩ := am_lc_inv h; cases he; exact ⟨_, rfl, rfl, rfl, rfl, hle⟩
  | i2l => obtain ⟨_, _, rfl, he⟩ := am_wd_inv h; cases he; exact ⟨_, rfl, rfl, rfl, rfl, hle⟩
  | l2i => obtain ⟨_, _, rfl, he⟩ := am_nr_inv h; cases he; exact ⟨_, rfl, rfl, rfl, rfl, hle⟩
  | dup =>
    have h2 : am_dup (pc + 1) lv0 st S = some A0 := h
    show ∃ A, am_dup (pc + 1) lv st S = some A ∧ _
    unfold am_dup at h2 ⊢
    split at h2
    all_goals first | (cases h2; exact ⟨_, rfl, rfl, rfl, rfl, hle⟩) | cases h2
  | dup_x1 =>
    have h2 : am_dx1 (pc + 1) lv0 st S = some A0 := h
    show ∃ A, am_dx1 (pc + 1) lv st S = some A ∧ _
    unfold am_dx1 at h2 ⊢
    split at h2
    all_goals first | (cases h2; exact ⟨_, rfl, rfl, rfl, rfl, hle⟩) | cases h2
  | dup2 =>
    have h2 : am_dp2 (pc + 1) lv0 st S = some A0 := h
    show ∃ A, am_dp2 (pc + 1) lv st S = some A ∧ _
    unfold am_dp2 at h2 ⊢
    split at h2
    all_goals first | (cases h2; exact ⟨_, rfl, rfl, rfl, rfl, hle⟩) | cases h2
  | pop =>
    have h2 : am_pop (pc + 1) lv0 st S = some A0 := h
    show ∃ A, am_pop (pc + 1) lv st S = some A ∧ _
    unfold am_pop at h2 ⊢
    split at h2
    all_goals first | (cases h2; exact ⟨_, rfl, rfl, rfl, rfl, hle⟩) | cases h2
  | ifCond k off => obtain ⟨_, _, rfl, he⟩ := am_if1_inv h; cases he; exact ⟨_, rfl, rfl, rfl, rfl, hle⟩
  | if_icmp k off => obtain ⟨_, _, _, rfl, he⟩ := am_if2_inv h; cases he; exact ⟨_, rfl, rfl, rfl, rfl, hle⟩
  | tableswitch d lo hi offs => obtain ⟨_, _, rfl, he⟩ := am_tsw_inv h; cases he; exact ⟨_, rfl, rfl, rfl, rfl, hle⟩
  | getfield i =>
    have h2 : am_gf a b (ts.headD 0) (pc + 3) lv0 st S Tk = some A0 := h
    show ∃ A, am_gf a b (ts.headD 0) (pc + 3) lv st S Tk = some A ∧ _
    exact am_lvf (fun lv => am_gf a b (ts.headD 0) (pc + 3) lv st S Tk) (am_gf_lv) hle h2
  | putfield i =>
    have h2 : am_pf a b (ts.headD 0) (pc + 3) lv0 st S Tk = some A0 := h
    show ∃ A, am_pf a b (ts.headD 0) (pc + 3) lv st S Tk = some A ∧ _
    exact am_lvf (fun lv => am_pf a b (ts.headD 0) (pc + 3) lv st S Tk) (am_pf_lv) hle h2
  | baload =>
    have h2 : am_ald 1 (pc + 1) lv0 st S Tk = some A0 := h
    show ∃ A, am_ald 1 (pc + 1) lv st S Tk = some A ∧ _
    exact am_lvf (fun lv => am_ald 1 (pc + 1) lv st S Tk) (am_ald_lv) hle h2
  | laload =>
    have h2 : am_lld (pc + 1) lv0 st S = some A0 := h
    show ∃ A, am_lld (pc + 1) lv st S = some A ∧ _
    exact am_lvf (fun lv => am_lld (pc + 1) lv st S) (am_lld_lv) hle h2
  | aaload =>
    have h2 : am_rld (pc + 1) lv0 st S = some A0 := h
    show ∃ A, am_rld (pc + 1) lv st S = some A ∧ _
    exact am_lvf (fun lv => am_rld (pc + 1) lv st S) (am_rld_lv) hle h2
  | iastore =>
    have h2 : am_ast (pc + 1) lv0 st S Tk = some A0 := h
    show ∃ A, am_ast (pc + 1) lv st S Tk = some A ∧ _
    exact am_lvf (fun lv => am_ast (pc + 1) lv st S Tk) (am_ast_lv) hle h2
  | bastore =>
    have h2 : am_bst (pc + 1) lv0 st S Tk = some A0 := h
    show ∃ A, am_bst (pc + 1) lv st S Tk = some A ∧ _
    exact am_lvf (fun lv => am_bst (pc + 1) lv st S Tk) (am_bst_lv) hle h2
  | lastore =>
    have h2 : am_lst (pc + 1) lv0 st S = some A0 := h
    show ∃ A, am_lst (pc + 1) lv st S = some A ∧ _
    exact am_lvf (fun lv => am_lst (pc + 1) lv st S) (am_lst_lv) hle h2
  | aastore =>
    have h2 : am_rst a (pc + 1) lv0 st S = some A0 := h
    show ∃ A, am_rst a (pc + 1) lv st S = some A ∧ _
    exact am_lvf (fun lv => am_rst a (pc + 1) lv st S) (am_rst_lv) hle h2
  | newarray t =>
    have h2 : am_mka a (pc + 2) lv0 st S Tk = some A0 := h
    show ∃ A, am_mka a (pc + 2) lv st S Tk = some A ∧ _
    exact am_lvf (fun lv => am_mka a (pc + 2) lv st S Tk) (am_mka_lv) hle h2
  | anewarray i =>
    have h2 : am_mka 3 (pc + 3) lv0 st S Tk = some A0 := h
    show ∃ A, am_mka 3 (pc + 3) lv st S Tk = some A ∧ _
    exact am_lvf (fun lv => am_mka 3 (pc + 3) lv st S Tk) (am_mka_lv) hle h2
  | iaload =>
    have h2 : (bif am_isX st then am_xld Xs (pc + 1) lv0 st S else am_ald 0 (pc + 1) lv0 st S Tk) = some A0 := h
    show ∃ A, (bif am_isX st then am_xld Xs (pc + 1) lv st S else am_ald 0 (pc + 1) lv st S Tk) = some A ∧ _
    cases hb : am_isX st with
    | true => rw [hb] at h2; exact am_lvf (fun lv => am_xld Xs (pc + 1) lv st S) (am_xld_lv) hle h2
    | false => rw [hb] at h2; exact am_lvf (fun lv => am_ald 0 (pc + 1) lv st S Tk) (am_ald_lv) hle h2
  | arraylength =>
    have h2 : (bif am_isY st then am_xln Xs (pc + 1) lv0 st S else am_len (pc + 1) lv0 st S) = some A0 := h
    show ∃ A, (bif am_isY st then am_xln Xs (pc + 1) lv st S else am_len (pc + 1) lv st S) = some A ∧ _
    cases hb : am_isY st with
    | true => rw [hb] at h2; exact am_lvf (fun lv => am_xln Xs (pc + 1) lv st S) (am_xln_lv) hle h2
    | false => rw [hb] at h2; exact am_lvf (fun lv => am_len (pc + 1) lv st S) (am_len_lv) hle h2
  | invokevirtual i =>
    have h2 : (bif Nat.beq (ts.headD 0) 99 then am_chr ts.tail (pc + 3) lv0 st S else am_cv a b (ts.headD 0) (pc + 3) lv0 st S) = some A0 := h
    show ∃ A, (bif Nat.beq (ts.headD 0) 99 then am_chr ts.tail (pc + 3) lv st S else am_cv a b (ts.headD 0) (pc + 3) lv st S) = some A ∧ _
    cases hb : Nat.beq (ts.headD 0) 99 with
    | true => rw [hb] at h2; exact am_lvf (fun lv => am_chr ts.tail (pc + 3) lv st S) (am_chr_lv) hle h2
    | false => rw [hb] at h2; exact am_lvf (fun lv => am_cv a b (ts.headD 0) (pc + 3) lv st S) (am_cv_lv) hle h2
  | invokestatic i =>
    have h2 : (bif Nat.beq (ts.headD 0) 7 then am_cpy (pc + 3) lv0 st S Tk else am_cs a b (pc + 3) lv0 st) = some A0 := h
    show ∃ A, (bif Nat.beq (ts.headD 0) 7 then am_cpy (pc + 3) lv st S Tk else am_cs a b (pc + 3) lv st) = some A ∧ _
    cases hb : Nat.beq (ts.headD 0) 7 with
    | true => rw [hb] at h2; exact am_lvf (fun lv => am_cpy (pc + 3) lv st S Tk) (am_cpy_lv) hle h2
    | false => rw [hb] at h2; exact am_lvf (fun lv => am_cs a b (pc + 3) lv st) (am_cs_lv) hle h2
  | invokespecial i =>
    have h2 : (bif Nat.beq (ts.headD 0) 6 then am_co (pc + 3) lv0 st S else am_ci a b (pc + 3) lv0 st) = some A0 := h
    show ∃ A, (bif Nat.beq (ts.headD 0) 6 then am_co (pc + 3) lv st S else am_ci a b (pc + 3) lv st) = some A ∧ _
    cases hb : Nat.beq (ts.headD 0) 6 with
    | true => rw [hb] at h2; exact am_lvf (fun lv => am_co (pc + 3) lv st S) (am_co_lv) hle h2
    | false => rw [hb] at h2; exact am_lvf (fun lv => am_ci a b (pc + 3) lv st) (am_ci_lv) hle h2
  | ireturn => exact am_lvr h (am_retr h)
  | lreturn => exact am_lvr h (am_rtlr h)
  | areturn => exact am_lvr h (am_rtar h)
  | return_ => exact am_lvr h (am_rtvr h)
  | _ =>
    have h3 : (none : Option am_A) = some A0 := h
    cases h3
